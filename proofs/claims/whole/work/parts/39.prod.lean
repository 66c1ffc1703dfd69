/-! product -/
def prodR (n2 : Nat) (u1 u2 : Nat → Nat) (x y : Nat) : Bool := le u1 (x / n2) (y / n2) && le u2 (x % n2) (y % n2)
section PRODR
variable {n1 n2 : Nat} {u1 u2 : Nat → Nat}
theorem dv_lt {x : Nat} (h : x < n1 * n2) : x / n2 < n1 := Nat.div_lt_of_lt_mul (by rw [Nat.mul_comm]; exact h)
theorem prod_wf (w1 : wfP n1 u1) (w2 : wfP n2 u2) (h6 : n1 * n2 ≤ 6) : wfP (n1 * n2) (upB (n1 * n2) (prodR n2 u1 u2)) := by
  have k1 := w1.1.1
  have k2 := w2.1.1
  have md : ∀ x, x % n2 < n2 := fun x => Nat.mod_lt x (by omega)
  refine upB_wf (Nat.mul_pos k1 k2) h6 (fun x hx => ?_) (fun x y z hx hy hz p q => ?_) (fun x y hx hy p q => ?_)
  · unfold prodR
    rw [w1.2.2.1 _ (dv_lt hx), w2.2.2.1 _ (md x)]
    rfl
  · unfold prodR at *
    rw [Bool.and_eq_true] at *
    exact ⟨w1.2.2.2.1 _ _ _ (dv_lt hx) (dv_lt hy) (dv_lt hz) p.1 q.1, w2.2.2.2.1 _ _ _ (md x) (md y) (md z) p.2 q.2⟩
  · unfold prodR at *
    rw [Bool.and_eq_true] at *
    have e1 := w1.2.2.2.2 _ _ (dv_lt hx) (dv_lt hy) p.1 q.1
    have e2 := w2.2.2.2.2 _ _ (md x) (md y) p.2 q.2
    have a1 := Nat.div_add_mod x n2
    have a2 := Nat.div_add_mod y n2
    rw [e1, e2] at a1
    omega
def pak (u1 : Nat → Nat) (n2 i w : Nat) : Nat → Nat
  | 0 => 0
  | k + 1 => bif le u1 i k then pak u1 n2 i w k ||| w * 2 ^ (k * n2) else pak u1 n2 i w k
theorem pak_tb {i w : Nat} (hw : w < 2 ^ n2) (h0 : 0 < n2) : ∀ k y, (pak u1 n2 i w k).testBit y = (decide (y < k * n2) && (le u1 i (y / n2) && w.testBit (y % n2)))
  | 0, y => by simp [pak]
  | k + 1, y => by
    have ih := pak_tb (i := i) (w := w) hw h0 k y
    have hs : (k + 1) * n2 = k * n2 + n2 := Nat.succ_mul k n2
    have hm : (w * 2 ^ (k * n2)).testBit y = (decide (k * n2 ≤ y) && w.testBit (y - k * n2)) := Nat.testBit_mul_two_pow w y (k * n2)
    unfold pak
    by_cases c1 : y < k * n2
    · rw [decide_eq_false (by omega), Bool.false_and] at hm
      rw [decide_eq_true c1, Bool.true_and] at ih
      rw [decide_eq_true (by omega), Bool.true_and]
      cases le u1 i k
      · exact ih
      · rw [cond_true, Nat.testBit_or, hm, Bool.or_false]; exact ih
    · rw [decide_eq_false c1, Bool.false_and] at ih
      rw [decide_eq_true (by omega), Bool.true_and] at hm
      by_cases c2 : y < (k + 1) * n2
      · have e1 : y / n2 = k := Nat.div_eq_of_lt_le (by omega) c2
        have e2 : y % n2 = y - k * n2 := by rw [Nat.mod_eq_sub_div_mul, e1]
        rw [decide_eq_true c2, Bool.true_and, e1, e2]
        cases hb : le u1 i k
        · rw [cond_false, ih]; rfl
        · rw [cond_true, Nat.testBit_or, hm, ih]; rfl
      · have e3 : w.testBit (y - k * n2) = false := by
          cases hb : w.testBit (y - k * n2)
          · rfl
          · have := tb_lt hw hb; omega
        rw [decide_eq_false c2, Bool.false_and]
        cases hb : le u1 i k
        · rw [cond_false, ih]
        · rw [cond_true, Nat.testBit_or, hm, ih, e3]; rfl
theorem pak_lt {i w : Nat} (hw : w < 2 ^ n2) (h0 : 0 < n2) (k : Nat) : pak u1 n2 i w k < 2 ^ (k * n2) := by
  apply Nat.lt_pow_two_of_testBit
  intro y hy
  rw [pak_tb hw h0, decide_eq_false (by omega)]
  rfl
theorem pak_up (w2 : wfP n2 u2) (h6 : n1 * n2 ≤ 6) {i j : Nat} (hj : j < n2) : pak u1 n2 i (u2 j) n1 = upB (n1 * n2) (prodR n2 u1 u2) (i * n2 + j) := by
  have k2 := w2.1.1
  refine upB_eq h6 (Nat.lt_of_lt_of_le (pak_lt (w2.2.1 j hj) k2 n1) (p2_le h6)) fun y _ => ?_
  rw [pak_tb (w2.2.1 j hj) k2]
  unfold prodR
  have e1 : (i * n2 + j) / n2 = i := Nat.div_eq_of_lt_le (by omega) (by rw [Nat.succ_mul]; omega)
  have e2 : (i * n2 + j) % n2 = j := Nat.mul_add_mod_of_lt hj
  rw [e1, e2]
  rfl
end PRODR
def oProd (S : St) (a b t : Int32) : Int32 × St := match ix a 4, ix b 4, ix t 4 with
  | some i, some j, some l => if (sP S i).1 * (sP S j).1 ≤ 6 then (nI ((sP S i).1 * (sP S j).1), setP S l ((sP S i).1 * (sP S j).1, upB ((sP S i).1 * (sP S j).1) (prodR (sP S j).1 (sP S i).2.1 (sP S j).2.1), fun _ => 0)) else (kE5, S)
  | _, _, _ => (m1, S)
section OPROD
variable {S : St} {a b t : Int32}
theorem oProd_a (e : ix a 4 = none) : oProd S a b t = (m1, S) := by unfold oProd; rw [e]
theorem oProd_b (e : ix b 4 = none) : oProd S a b t = (m1, S) := by unfold oProd; rw [e]; cases ix a 4 <;> rfl
theorem oProd_t (e : ix t 4 = none) : oProd S a b t = (m1, S) := by unfold oProd; rw [e]; cases ix a 4 <;> cases ix b 4 <;> rfl
theorem oProd_s {i j l : Nat} (e1 : ix a 4 = some i) (e2 : ix b 4 = some j) (e3 : ix t 4 = some l) : oProd S a b t = if (sP S i).1 * (sP S j).1 ≤ 6 then (nI ((sP S i).1 * (sP S j).1), setP S l ((sP S i).1 * (sP S j).1, upB ((sP S i).1 * (sP S j).1) (prodR (sP S j).1 (sP S i).2.1 (sP S j).2.1), fun _ => 0)) else (kE5, S) := by unfold oProd; rw [e1, e2, e3]
theorem WS.prod (W : WS S) : WS (oProd S a b t).2 := by
  cases e1 : ix a 4 with
  | none => rw [oProd_a e1]; exact W
  | some i =>
    cases e2 : ix b 4 with
    | none => rw [oProd_b e2]; exact W
    | some j =>
      cases e3 : ix t 4 with
      | none => rw [oProd_t e3]; exact W
      | some l =>
        rw [oProd_s e1 e2 e3]
        by_cases hc : (sP S i).1 * (sP S j).1 ≤ 6
        · rw [if_pos hc]; exact W.atP (wPT.z (prod_wf (W.1 i (ix_some e1).1).1 (W.1 j (ix_some e2).1).1 hc))
        · rw [if_neg hc]; exact W
variable {d g : Nat} {h : AH} {K : Int32 → AH → Prop}
theorem S_pairsAbove {a1 a2 n1 n2 i j : Nat} {u1 u2 : Nat → Nat} (f1 : is_P h a1) (f2 : is_P h a2) (o1 : PO h a1 n1 u1) (o2 : PO h a2 n2 u2) (w1 : wfP n1 u1) (w2 : wfP n2 u2) (h6 : n1 * n2 ≤ 6) (hi : i < n1) (hj : j < n2) (hK : K (nI (pak u1 n2 i (u2 j) n1)) h) : Ev (d + 1) g g m_C_pairsAbove 0 [.ref a1, .int (nI i), .ref a2, .int (nI j)] [] h (asI K) := by
  have k1 := w1.1.2
  have k2 := w2.1.2
  have k3 := w2.1.1
  refine w_C_pairsAbove_0 f1 f2 ?_
  refine for_up (σ := Unit) (fun k _ => Ev (d + 1) g g m_C_pairsAbove 6 [.ref a1, .int (nI i), .ref a2, .int (nI j), .int (nI (pak u1 n2 i (u2 j) k)), .int (nI k)] [] h (asI K)) (fun _ _ => True) n1 (fun _ _ => ?_) (fun k _ hk _ ih => ?_) 0 () (Nat.zero_le _) trivial
  · exact w_C_pairsAbove_6 f1 f2 (br_le n1 n1 o1.1 rfl (fun _ => hK) (fun z => by omega))
  · have i1 := ih () trivial
    unfold pak at i1
    have q1 : (k + 1) * n2 ≤ n1 * n2 := Nat.mul_le_mul_right n2 hk
    rw [Nat.succ_mul] at q1
    refine w_C_pairsAbove_6 f1 f2 (br_le n1 k o1.1 rfl (fun z => by omega) (fun _ => S_below f1 o1 w1 hi hk fun _ => br_b (fun hz => ?_) (fun hz => ?_)))
    · rw [hz] at i1
      rw [nI_add]
      exact i1
    · rw [hz] at i1
      rw [nI_add, nI_clamp (by omega), o2.1, o2.2 j hj, pk_mul, nm_shl _ (w2.u64 hj) _ (by omega), nm_or _ (Nat.lt_of_lt_of_le (pak_lt (w2.2.1 j hj) k3 k) (p2_le (by omega))) _ (shl64 (w2.2.1 j hj) (by omega))]
      exact ⟨vp_in_nI (by omega) (by decide), i1⟩
theorem C_prodL {i j l : Nat} (W : WS S) (I : InvC h S) (hi : i < 4) (hj : j < 4) (hl : l < 4) (h6 : (sP S i).1 * (sP S j).1 ≤ 6) (hK : ∀ h1, doneC (setP S l ((sP S i).1 * (sP S j).1, upB ((sP S i).1 * (sP S j).1) (prodR (sP S j).1 (sP S i).2.1 (sP S j).2.1), fun _ => 0)) h h1 → K (nI ((sP S i).1 * (sP S j).1)) h1) : Ev (d + 5) g g m_C_product 64 [.ref A_x, unk, unk, unk, .ref (aP i), .ref (aP j), .ref (aP l), .int (nI ((sP S i).1 * (sP S j).1)), .int (nI 0)] [] h (asI K) := by
  have w1 := (W.1 i hi).1
  have w2 := (W.1 j hj).1
  have fi := (I.1.ps i hi).2
  have fj := (I.1.ps j hj).2
  have fl := (I.1.ps l hl).2
  have k1 := w1.1.2
  have k2 := w2.1.2
  refine for_up (σ := AH) (fun x hh => Ev (d + 5) g g m_C_product 64 [.ref A_x, unk, unk, unk, .ref (aP i), .ref (aP j), .ref (aP l), .int (nI ((sP S i).1 * (sP S j).1)), .int (nI x)] [] hh (asI K)) (fun x hh => Ext h hh ∧ same (fun q => q ≠ A_dOrd) h hh ∧ ∀ y, y < x * (sP S j).1 → mi hh A_dOrd y = nI (upB ((sP S i).1 * (sP S j).1) (prodR (sP S j).1 (sP S i).2.1 (sP S j).2.1) y)) (sP S i).1 (fun hh hI => ?_) (fun x hh hx hI ih => ?_) 0 h (Nat.zero_le _) ⟨Ext.rfl', same.rf, fun y hy => by rw [Nat.zero_mul] at hy; omega⟩
  · obtain ⟨e, sa, hr⟩ := hI
    refine w_C_product_64 (I.1.ext e) (fi.ext e) (fj.ext e) (fl.ext e) (br_le _ _ ((I.2.1 i hi).kd sa).1.1 rfl (fun _ => ?_) (fun z => by omega))
    exact S_rep hl I e sa (prod_wf w1 w2 h6) hr fun h1 dn => hK h1 dn
  · obtain ⟨e, sa, hr⟩ := hI
    have q1 : (x + 1) * (sP S j).1 ≤ (sP S i).1 * (sP S j).1 := Nat.mul_le_mul_right _ hx
    rw [Nat.succ_mul] at q1
    refine w_C_product_64 (I.1.ext e) (fi.ext e) (fj.ext e) (fl.ext e) (br_le _ x ((I.2.1 i hi).kd sa).1.1 rfl (fun z => by omega) (fun _ => ?_))
    refine for_up (σ := AH) (fun y hh => Ev (d + 5) g g m_C_product 77 [.ref A_x, unk, unk, unk, .ref (aP i), .ref (aP j), .ref (aP l), .int (nI ((sP S i).1 * (sP S j).1)), .int (nI x), .int (nI y)] [] hh (asI K)) (fun y hh => Ext h hh ∧ same (fun q => q ≠ A_dOrd) h hh ∧ ∀ z, z < x * (sP S j).1 + y → mi hh A_dOrd z = nI (upB ((sP S i).1 * (sP S j).1) (prodR (sP S j).1 (sP S i).2.1 (sP S j).2.1) z)) (sP S j).1 (fun hh hI => ?_) (fun y hh hy hI ih2 => ?_) 0 hh (Nat.zero_le _) ⟨e, sa, fun z hz => hr z (by omega)⟩
    · obtain ⟨e, sa, hr⟩ := hI
      refine w_C_product_77 (I.1.ext e) (fi.ext e) (fj.ext e) (fl.ext e) (br_le _ _ ((I.2.1 j hj).kd sa).1.1 rfl (fun _ => ?_) (fun z => by omega))
      rw [nI_add]
      refine ih hh ⟨e, sa, ?_⟩
      rw [Nat.succ_mul]
      exact hr
    · obtain ⟨e, sa, hr⟩ := hI
      have P1 := ((I.2.1 i hi).kd sa).1
      have P2 := ((I.2.1 j hj).kd sa).1
      refine w_C_product_77 (I.1.ext e) (fi.ext e) (fj.ext e) (fl.ext e) (br_le _ y P2.1 rfl (fun z => by omega) (fun _ => ?_))
      refine S_pairsAbove (fi.ext e) (fj.ext e) P1 P2 w1 w2 h6 hx hy fun _ => ?_
      rw [P2.1, pk_mul, nI_add _ y, nI_add y 1, nI_clamp (by omega), pak_up w2 h6 hy]
      refine ⟨vp_in_nI (by omega) (by decide), ih2 _ ⟨e.trans (ext_wi _ _ _ _), sa.wi (fun q => q rfl), fun z hz => ?_⟩⟩
      by_cases ez : z = x * (sP S j).1 + y
      · subst ez; exact mi_eq
      · rw [mi_nj ez]; exact hr z (by omega)
theorem mul36 {p q : Nat} (hp : p ≤ 6) (hq : q ≤ 6) : p * q ≤ 36 := Nat.mul_le_mul hp hq
theorem C_product (W : WS S) (I : InvC h S) (hK : ∀ h1, doneC (oProd S a b t).2 h h1 → K (oProd S a b t).1 h1) : Ev (d + 5) g g m_C_product 0 [.ref A_x, .int a, .int b, .int t] [] h (asI K) := by
  have bad : oProd S a b t = (m1, S) → K m1 h := fun e => by rw [e] at hK; exact hK h (doneC.rf I)
  refine w_C_product_0 I.1 (S_posetAt I.1 (fun e => ?_) (fun i hi _ fi e1 => ⟨fi, ?_⟩))
  · have kk := bad (oProd_a e)
    exact S_posetAt I.1 (fun _ => S_posetAt I.1 (fun _ => kk) (fun l _ _ fp _ => ⟨fp, kk⟩)) (fun j _ _ fj _ => ⟨fj, S_posetAt I.1 (fun _ => kk) (fun l _ _ fp _ => ⟨fp, kk⟩)⟩)
  refine S_posetAt I.1 (fun e => ?_) (fun j hj _ fj e2 => ⟨fj, ?_⟩)
  · have kk := bad (oProd_b e)
    exact S_posetAt I.1 (fun _ => kk) (fun l _ _ fp _ => ⟨fp, kk⟩)
  refine S_posetAt I.1 (fun e => bad (oProd_t e)) (fun l hl _ fl e3 => ⟨fl, ?_⟩)
  rw [oProd_s e1 e2 e3] at hK
  have n36 := mul36 (W.1 i hi).1.1.2 (W.1 j hj).1.1.2
  rw [(I.2.1 i hi).1.1, (I.2.1 j hj).1.1, pk_mul]
  refine br_le ((sP S i).1 * (sP S j).1) 6 rfl rfl (fun hc => ?_) (fun hc => ?_)
  · rw [if_pos hc] at hK
    exact C_prodL W I hi hj hl hc hK
  · rw [if_neg (by omega)] at hK
    exact hK h (doneC.rf I)
theorem M_product (W : WS S) (I : InvM h S) (hK : ∀ h1, doneM (oProd S a b t).2 h h1 → K (oProd S a b t).1 h1) : Ev (d + 2) g g m_M_product 0 [.ref A_M, .int a, .int b, .int t] [] h (asI K) := by
  have bad : oProd S a b t = (m1, S) → K m1 h := fun e => by rw [e] at hK; exact hK h (doneM.rf I)
  refine w_M_product_0 I.1 (S_isP (fun e => bad (oProd_a e)) (fun i hi hv1 e1 => S_isP (fun e => bad (oProd_b e)) (fun j hj hv2 e2 => (S_isP (fun e => bad (oProd_t e)) (fun l hl hv3 e3 => ?_)).mI fun x h1 _ kk e => (kk e).symm)))
  subst hv1 hv2 hv3
  rw [oProd_s e1 e2 e3] at hK
  have w1 := (W.1 i hi).1
  have w2 := (W.1 j hj).1
  have k1 := w1.1.2
  have k2 := w2.1.2
  have k3 := w2.1.1
  have n36 := mul36 k1 k2
  have o1 := (I.2.1 i hi).1
  have o2 := (I.2.1 j hj).1
  rw [nI_clamp (n := i) (by omega), nI_clamp (n := j) (by omega), o1.1, o2.1, pk_mul, nI_clamp (n := 4) (by decide)]
  refine ⟨vp_in_nI (by omega) (by decide), vp_in_nI (by omega) (by decide), br_le ((sP S i).1 * (sP S j).1) 6 rfl rfl (fun hc => ⟨vp_in_nI (by omega) (by decide), vp_in_nI (by decide) (by decide), ?_⟩) (fun hc => ?_)⟩
  · rw [if_pos hc] at hK
    refine for_up (σ := AH) (fun x hh => Ev (d + 2) g g m_M_product 66 [.ref A_M, .int (nI i), .int (nI j), .int (nI l), .int (nI (sP S j).1), .int (nI x)] [] hh (asI K)) (fun x hh => Ext h hh ∧ sm PD h hh ∧ mi hh M_size 4 = nI ((sP S i).1 * (sP S j).1) ∧ ∀ y, y < x → mi hh M_up (24 + y) = nI (upB ((sP S i).1 * (sP S j).1) (prodR (sP S j).1 (sP S i).2.1 (sP S j).2.1) y)) ((sP S i).1 * (sP S j).1) (fun hh hI => ?_) (fun x hh hx hI ih => ?_) 0 _ (Nat.zero_le _) ?_
    · obtain ⟨e, sa, h4, hr⟩ := hI
      refine w_M_product_66 (I.1.ext e) ⟨vp_in_nI (by decide) (by decide), ?_⟩
      rw [nI_clamp (n := 4) (by decide), h4]
      refine br_le _ _ rfl rfl (fun _ => S_set W hl I e sa (prod_wf w1 w2 hc) h4 hr fun h1 dn hm => ⟨vp_in_nI (by omega) (by decide), ?_⟩) (fun z => by omega)
      rw [nI_clamp (n := l) (by omega), hm]
      exact hK h1 dn
    · obtain ⟨e, sa, h4, hr⟩ := hI
      have q1 := ((I.kD W e sa).2.1 i hi).1
      have q2 := ((I.kD W e sa).2.1 j hj).1
      refine w_M_product_66 (I.1.ext e) ⟨vp_in_nI (by decide) (by decide), ?_⟩
      rw [nI_clamp (n := 4) (by decide), h4]
      refine br_le _ x rfl rfl (fun z => by omega) (fun _ => ?_)
      refine for_up (σ := Unit) (fun y _ => Ev (d + 2) g g m_M_product 83 [.ref A_M, .int (nI i), .int (nI j), .int (nI l), .int (nI (sP S j).1), .int (nI x), .int (nI (bset (prodR (sP S j).1 (sP S i).2.1 (sP S j).2.1 x) y)), .int (nI y)] [] hh (asI K)) (fun _ _ => True) ((sP S i).1 * (sP S j).1) (fun _ _ => ?_) (fun y _ hy _ ih2 => ?_) 0 () (Nat.zero_le _) trivial
      · refine w_M_product_83 (I.1.ext e) ⟨vp_in_nI (by decide) (by decide), ?_⟩
        rw [nI_clamp (n := 4) (by decide), h4]
        refine br_le _ _ rfl rfl (fun _ => ?_) (fun z => by omega)
        rw [nI_add 24 x, nI_add x 1, nI_clamp (by omega)]
        refine ⟨vp_in_nI (by omega) (by decide), ih _ ⟨e.trans (ext_wi _ _ _ _), sa.wi (fun q => q.2.2 ⟨rfl, by omega⟩), by rw [mi_ne (by decide)]; exact h4, fun y hy => ?_⟩⟩
        by_cases ey : y = x
        · subst ey; exact mi_eq
        · rw [mi_nj (fun (q : 24 + y = 24 + x) => ey (by omega))]; exact hr y (by omega)
      · have i1 := ih2 () trivial
        unfold bset at i1
        refine w_M_product_83 (I.1.ext e) ⟨vp_in_nI (by decide) (by decide), ?_⟩
        rw [nI_clamp (n := 4) (by decide), h4]
        have hl : bset (prodR (sP S j).1 (sP S i).2.1 (sP S j).2.1 x) y < 64 := Nat.lt_of_lt_of_le (bset_lt _ _) (p2_le (by omega))
        have nz : ¬ nI (sP S j).1 = 0 := nI_ne0 (by omega) (by omega)
        have dx := dv_lt hx
        have dy := dv_lt hy
        have mx : x % (sP S j).1 < (sP S j).1 := Nat.mod_lt x (by omega)
        have my : y % (sP S j).1 < (sP S j).1 := Nat.mod_lt y (by omega)
        rw [pk_div (a := x) (d := (sP S j).1) (by omega) (by omega) (by omega), pk_div (a := y) (d := (sP S j).1) (by omega) (by omega) (by omega)]
        refine br_le _ y rfl rfl (fun z => by omega) (fun _ => ⟨nz, nz, S_MisLess (I.1.ext e) (by omega) q1 k1 (w1.u64 dx) dx (by omega) fun _ => br_b (fun hz => ?_) (fun hz => ⟨nz, nz, ?_⟩)⟩)
        · rw [nm_or _ hl 0 (by decide), Nat.or_zero, nI_add]
          have e3 : prodR (sP S j).1 (sP S i).2.1 (sP S j).2.1 x y = false := by unfold prodR; rw [hz]; rfl
          rw [e3] at i1
          exact i1
        · have r1 := pk_rem (a := x) (d := (sP S j).1) (by omega) (by omega) (by omega)
          have r2 := pk_rem (a := y) (d := (sP S j).1) (by omega) (by omega) (by omega)
          rw [pk_div (a := x) (d := (sP S j).1) (by omega) (by omega) (by omega)] at r1
          rw [pk_div (a := y) (d := (sP S j).1) (by omega) (by omega) (by omega)] at r2
          rw [r1, r2]
          refine S_MisLess (I.1.ext e) (by omega) q2 k2 (w2.u64 mx) mx (by omega) fun _ => br_b (fun hz2 => ?_) (fun hz2 => ?_)
          · rw [nm_or _ hl 0 (by decide), Nat.or_zero, nI_add]
            have e3 : prodR (sP S j).1 (sP S i).2.1 (sP S j).2.1 x y = false := by unfold prodR; rw [hz, hz2]; rfl
            rw [e3] at i1
            exact i1
          · rw [nm_bit1 y (by omega), nm_or _ hl _ (p2_lt (by omega)), nI_add]
            have e3 : prodR (sP S j).1 (sP S i).2.1 (sP S j).2.1 x y = true := by unfold prodR; rw [hz, hz2]; rfl
            rw [e3] at i1
            exact i1
    · exact ⟨ext_wi _ _ _ _, sm.rf.wi (fun q => q.2.1 ⟨rfl, rfl⟩), mi_eq, fun y hy => by omega⟩
  · rw [if_neg (by omega)] at hK
    exact hK h (doneM.rf I)
end OPROD
/-! restrict -/
def rnk (s : Nat) : Nat → Nat
  | 0 => 0
  | k + 1 => bif s.testBit k then rnk s k + 1 else rnk s k
def ren (u s : Nat) : Nat → Nat
  | 0 => 0
  | k + 1 => bif s.testBit k then (ren u s k ||| (if u.testBit k then 1 else 0) * 2 ^ rnk s k) else ren u s k
def sel (s m : Nat) : Nat := ((List.range 6).filter s.testBit).getD m 0
theorem rnk_t {s k : Nat} (e : s.testBit k = true) : rnk s (k + 1) = rnk s k + 1 := by show (bif s.testBit k then rnk s k + 1 else rnk s k) = _; rw [e]; rfl
theorem rnk_f {s k : Nat} (e : s.testBit k = false) : rnk s (k + 1) = rnk s k := by show (bif s.testBit k then rnk s k + 1 else rnk s k) = _; rw [e]; rfl
theorem ren_t {u s k : Nat} (e : s.testBit k = true) : ren u s (k + 1) = ren u s k ||| (if u.testBit k then 1 else 0) * 2 ^ rnk s k := by show (bif s.testBit k then (ren u s k ||| (if u.testBit k then 1 else 0) * 2 ^ rnk s k) else ren u s k) = _; rw [e]; rfl
theorem ren_f {u s k : Nat} (e : s.testBit k = false) : ren u s (k + 1) = ren u s k := by show (bif s.testBit k then (ren u s k ||| (if u.testBit k then 1 else 0) * 2 ^ rnk s k) else ren u s k) = _; rw [e]; rfl
theorem sel_ok : ∀ s, s < 64 → ∀ m, m < 6 → m < rnk s 6 → sel s m < 6 ∧ s.testBit (sel s m) = true ∧ rnk s (sel s m) = m := by decide +kernel
theorem sel_inv : ∀ s, s < 64 → ∀ x, x < 6 → s.testBit x = true → rnk s x < rnk s 6 ∧ sel s (rnk s x) = x := by decide +kernel
theorem rnk_le : ∀ s, s < 64 → ∀ k, k < 7 → rnk s k ≤ k ∧ rnk s k ≤ rnk s 6 := by decide +kernel
theorem rnk_pos : ∀ s, s < 64 → s ≠ 0 → 1 ≤ rnk s 6 := by decide +kernel
theorem rnk_n : ∀ n, n < 7 → ∀ s, s < 2 ^ n → rnk s n = rnk s 6 := by decide +kernel
theorem ren6 : ∀ u, u < 64 → ∀ s, s < 64 → ∀ m, m < 6 → (ren u s 6).testBit m = (decide (m < rnk s 6) && u.testBit (sel s m)) := by decide +kernel
theorem ren_lt : ∀ u, u < 64 → ∀ s, s < 64 → ∀ k, k < 7 → ren u s k < 64 := by decide +kernel
theorem ren_n : ∀ n, n < 7 → ∀ s, s < 2 ^ n → ∀ u, u < 64 → ren u s n = ren u s 6 := by decide +kernel
def resR (s : Nat) (up : Nat → Nat) (x y : Nat) : Bool := le up (sel s x) (sel s y)
section RESR
variable {n s : Nat} {up : Nat → Nat}
theorem res_wf (w : wfP n up) (hs : s < 2 ^ n) (h0 : s ≠ 0) : wfP (rnk s 6) (upB (rnk s 6) (resR s up)) := by
  have h6 := w.1.2
  have h64 := Nat.lt_of_lt_of_le hs (p2_le h6)
  have r6 := (rnk_le s h64 6 (by decide)).1
  have lt : ∀ x, x < rnk s 6 → sel s x < n := fun x hx => tb_lt hs (sel_ok s h64 x (by omega) hx).2.1
  refine upB_wf (rnk_pos s h64 h0) r6 (fun x hx => w.2.2.1 _ (lt x hx)) (fun x y z hx hy hz p q => w.2.2.2.1 _ _ _ (lt x hx) (lt y hy) (lt z hz) p q) (fun x y hx hy p q => ?_)
  have e := w.2.2.2.2 _ _ (lt x hx) (lt y hy) p q
  rw [← (sel_ok s h64 x (by omega) hx).2.2, ← (sel_ok s h64 y (by omega) hy).2.2, e]
theorem res_up (w : wfP n up) (hs : s < 2 ^ n) {x : Nat} (hx : x < n) (hb : s.testBit x = true) : ren (up x) s 6 = upB (rnk s 6) (resR s up) (rnk s x) := by
  have h6 := w.1.2
  have h64 := Nat.lt_of_lt_of_le hs (p2_le h6)
  refine upB_eq (rnk_le s h64 6 (by decide)).1 (ren_lt _ (w.u64 hx) s h64 6 (by decide)) fun m hm => ?_
  rw [ren6 _ (w.u64 hx) s h64 m hm]
  unfold resR
  rw [(sel_inv s h64 x (by omega) hb).2]
  rfl
end RESR
def oRes2 (S : St) (i e j : Nat) : Int32 × St := if e = 0 then (kE2, S) else (nI (rnk ((pE (sP S i)).getD e 0) 6), setP S j (rnk ((pE (sP S i)).getD e 0) 6, upB (rnk ((pE (sP S i)).getD e 0) 6) (resR ((pE (sP S i)).getD e 0) (sP S i).2.1), fun _ => 0))
def oRes (S : St) (v a t : Int32) : Int32 × St := match ix v 4, ix t 4 with
  | some i, some j => (match ix a (pE (sP S i)).length with
    | none => (m1, S)
    | some e => oRes2 S i e j)
  | _, _ => (m1, S)
section ORES
variable {S : St} {v a t : Int32}
theorem oRes_v (e : ix v 4 = none) : oRes S v a t = (m1, S) := by unfold oRes; rw [e]
theorem oRes_t (e : ix t 4 = none) : oRes S v a t = (m1, S) := by unfold oRes; rw [e]; cases ix v 4 <;> rfl
theorem oRes_a {i j : Nat} (e1 : ix v 4 = some i) (e2 : ix t 4 = some j) (e : (ix a (pE (sP S i)).length).isSome = false) : oRes S v a t = (m1, S) := by
  unfold oRes
  rw [e1, e2]
  show (match ix a (pE (sP S i)).length with
    | none => (m1, S)
    | some e => oRes2 S i e j) = _
  rw [iS_none e]
theorem oRes_s {i j k : Nat} (e1 : ix v 4 = some i) (e2 : ix t 4 = some j) (e : ix a (pE (sP S i)).length = some k) : oRes S v a t = oRes2 S i k j := by
  unfold oRes
  rw [e1, e2]
  show (match ix a (pE (sP S i)).length with
    | none => (m1, S)
    | some e => oRes2 S i e j) = _
  rw [e]
theorem el_ne0 {n : Nat} {up : Nat → Nat} (w : wfP n up) {k : Nat} (hk : k < (elems n up).length) (h0 : k ≠ 0) : (elems n up).getD k 0 ≠ 0 := fun e => h0 (el_inj w.1.2 hk (el_zero w).2 (by rw [e, (el_zero w).1]))
theorem WS.res (W : WS S) : WS (oRes S v a t).2 := by
  cases e1 : ix v 4 with
  | none => rw [oRes_v e1]; exact W
  | some i =>
    cases e2 : ix t 4 with
    | none => rw [oRes_t e2]; exact W
    | some j =>
      cases e : ix a (pE (sP S i)).length with
      | none => rw [oRes_a e1 e2 (by rw [e]; rfl)]; exact W
      | some k =>
        rw [oRes_s e1 e2 e]
        have w := (W.1 i (ix_some e1).1).1
        have hk := (ix_some e).1
        unfold oRes2
        by_cases hc : k = 0
        · rw [if_pos hc]; exact W
        · rw [if_neg hc]; exact W.atP (wPT.z (res_wf w ((mem_elems w.1.2).mp (getD_mem hk)).1 (el_ne0 w hk hc)))
variable {d g : Nat} {h : AH} {K : Int32 → AH → Prop}
theorem S_renumbered {u s : Nat} (hu : u < 64) (hs : s < 64) (hK : K (nI (ren u s 6)) h) : Ev d g g m_C_renumbered 0 [.int (nI u), .int (nI s)] [] h (asI K) := by
  refine w_C_renumbered_0 ?_
  refine for_up (σ := Unit) (fun k _ => Ev d g g m_C_renumbered 7 [.int (nI u), .int (nI s), .int (nI (ren u s k)), .int (nI (rnk s k)), .int (nI k)] [] h (asI K)) (fun _ _ => True) 6 (fun _ _ => ?_) (fun k _ hk _ ih => ?_) 0 () (Nat.zero_le _) trivial
  · exact w_C_renumbered_7 (br_le 6 6 rfl rfl (fun _ => hK) (fun z => by omega))
  · have i1 := ih () trivial
    have rl := rnk_le s hs k (by omega)
    have nl := ren_lt u hu s hs (k + 1) (by omega)
    refine w_C_renumbered_7 (br_le 6 k rfl rfl (fun z => by omega) (fun _ => ?_))
    rw [nm_tb s hs k hk, nm_tb u hu k hk, nI_add k 1]
    refine br_tb (fun hz => ?_) (fun hz => ?_)
    · rw [rnk_f hz, ren_f hz] at i1
      exact i1
    · rw [rnk_t hz, ren_t hz] at i1
      have sm1 : (if u.testBit k = true then 1 else 0) < 2 := by split <;> decide
      have s64 : (if u.testBit k = true then 1 else 0) * 2 ^ rnk s k < 64 := shl64 (n1 := rnk s k) (n2 := 1) sm1 (by omega)
      rw [nm_shl _ (by omega) _ (by omega), nm_or _ (ren_lt u hu s hs k (by omega)) _ s64, nI_add (rnk s k) 1]
      exact i1
theorem C_restrict (W : WS S) (I : InvC h S) (hK : ∀ h1, doneC (oRes S v a t).2 h h1 → K (oRes S v a t).1 h1) : Ev (d + 5) g g m_C_restrict 0 [.ref A_x, .int v, .int a, .int t] [] h (asI K) := by
  have bad : oRes S v a t = (m1, S) → K m1 h := fun e => by rw [e] at hK; exact hK h (doneC.rf I)
  refine w_C_restrict_0 I.1 (S_posetAt I.1 (fun e => ?_) (fun i hi _ fi e1 => ⟨fi, ?_⟩))
  · have kk := bad (oRes_v e)
    exact S_posetAt I.1 (fun _ => kk) (fun l _ _ fp _ => ⟨fp, kk⟩)
  refine S_posetAt I.1 (fun e => bad (oRes_t e)) (fun j hj _ fj e2 => ⟨fj, ?_⟩)
  have w := (W.1 i hi).1
  have h6 := w.1.2
  have P := I.2.1 i hi
  have hl : (pE (sP S i)).length ≤ 64 := elems_len (up := (sP S i).2.1) h6
  have el := P.2.2.1
  refine S_hasElement fi el.1 hl fun _ => br_nb (fun e3 => bad (oRes_a e1 e2 e3)) (fun e3 => ?_)
  obtain ⟨k, ek⟩ := Option.isSome_iff_exists.mp e3
  rw [oRes_s e1 e2 ek] at hK
  obtain ⟨lk, rfl⟩ := ix_some ek
  have lk : k < (pE (sP S i)).length := lk
  have ms : (pE (sP S i)).getD k 0 ∈ pE (sP S i) := getD_mem lk
  have s64 := el64 h6 ms
  have sn := ((mem_elems h6).mp ms).1
  rw [nI_clamp (by omega), el.2.1 k lk]
  unfold oRes2 at hK
  refine ⟨vp_in_nI (by omega) (by decide), br_ne ((pE (sP S i)).getD k 0) 0 rfl rfl (fun z => ?_) (fun z => ?_)⟩
  · have k0 : k = 0 := Classical.byContradiction fun q => el_ne0 w lk q z
    rw [if_pos k0] at hK
    exact hK h (doneC.rf I)
  have k0 : k ≠ 0 := fun q => z (by rw [q]; exact (el_zero w).1)
  rw [if_neg k0] at hK
  generalize (pE (sP S i)).getD k 0 = s at *
  refine for_up (σ := AH) (fun x hh => Ev (d + 5) g g m_C_restrict 58 [.ref A_x, unk, unk, unk, .ref (aP i), .ref (aP j), .int (nI s), .int (nI (rnk s x)), .int (nI x)] [] hh (asI K)) (fun x hh => Ext h hh ∧ same (fun q => q ≠ A_dOrd) h hh ∧ ∀ y, y < rnk s x → mi hh A_dOrd y = nI (upB (rnk s 6) (resR s (sP S i).2.1) y)) (sP S i).1 (fun hh hI => ?_) (fun x hh hx hI ih => ?_) 0 h (Nat.zero_le _) ⟨Ext.rfl', same.rf, fun y hy => absurd hy (Nat.not_lt_zero y)⟩
  · obtain ⟨e, sa, hr⟩ := hI
    refine w_C_restrict_58 (I.1.ext e) (fi.ext e) (fj.ext e) (br_le _ _ (P.kd sa).1.1 rfl (fun _ => ?_) (fun z => by omega))
    rw [rnk_n _ (by omega) s sn] at hr ⊢
    exact S_rep hj I e sa (res_wf w sn z) hr fun h1 dn => hK h1 dn
  · obtain ⟨e, sa, hr⟩ := hI
    have P2 := (P.kd sa).1
    have i1 := ih
    have rl := rnk_le s s64 x (by omega)
    refine w_C_restrict_58 (I.1.ext e) (fi.ext e) (fj.ext e) (br_le _ x P2.1 rfl (fun z => by omega) (fun _ => ?_))
    rw [nm_tb s s64 x (by omega), nI_add x 1]
    refine br_tb (fun hz => ?_) (fun hz => ?_)
    · rw [rnk_f hz] at i1
      exact i1 hh ⟨e, sa, hr⟩
    · rw [rnk_t hz] at i1
      rw [nI_clamp (n := x) (by omega), P2.2 x hx]
      refine ⟨vp_in_nI (by omega) (by decide), S_renumbered (w.u64 hx) s64 fun _ => ?_⟩
      have q1 := (sel_inv s s64 x (by omega) hz).1
      have q2 := (rnk_le s s64 6 (by decide)).1
      rw [nI_clamp (n := rnk s x) (by omega), nI_add (rnk s x) 1, res_up w sn hx hz]
      refine ⟨vp_in_nI (by omega) (by decide), i1 _ ⟨e.trans (ext_wi _ _ _ _), sa.wi (fun q => q rfl), fun y hy => ?_⟩⟩
      have hy : y < rnk s x + 1 := hy
      by_cases ey : y = rnk s x
      · subst ey; exact mi_eq
      · rw [mi_nj ey]; exact hr y (by omega)
theorem M_restrict (W : WS S) (I : InvM h S) (hK : ∀ h1, doneM (oRes S v a t).2 h h1 → K (oRes S v a t).1 h1) : Ev (d + 3) g g m_M_restrict 0 [.ref A_M, .int v, .int a, .int t] [] h (asI K) := by
  have bad : ∀ h1, doneM S h h1 → oRes S v a t = (m1, S) → K m1 h1 := fun h1 dn e => by rw [e] at hK; exact hK h1 dn
  refine w_M_restrict_0 I.1 (S_MisFound I.1 (fun e _ => ⟨fun _ => bad h (doneM.rf I) (oRes_v e), fun z => absurd rfl z⟩) fun i e1 => ?_)
  obtain ⟨hi, rfl⟩ := ix_some e1
  have w := (W.1 i hi).1
  refine ⟨_, _, (I.2.1 i hi).1, w, fun h1 ee ss el _ => ⟨fun z => absurd z (by decide), fun _ => ?_⟩⟩
  have dn := doneM.fin W I ee ss
  have h6 := w.1.2
  have hl : (pE (sP S i)).length ≤ 64 := elems_len (up := (sP S i).2.1) h6
  refine S_isP (fun e => bad h1 dn (oRes_t e)) (fun j hj hv2 e2 => ?_)
  subst hv2
  refine S_MisElement dn.1.1 el.1 hl fun _ => br_nb (fun e3 => bad h1 dn (oRes_a e1 e2 e3)) (fun e3 => ?_)
  obtain ⟨k, ek⟩ := Option.isSome_iff_exists.mp e3
  rw [oRes_s e1 e2 ek] at hK
  obtain ⟨lk, rfl⟩ := ix_some ek
  have lk : k < (pE (sP S i)).length := lk
  have ms : (pE (sP S i)).getD k 0 ∈ pE (sP S i) := getD_mem lk
  have s64 := el64 h6 ms
  have sn := ((mem_elems h6).mp ms).1
  rw [nI_clamp (by omega), el.2.1 k lk]
  unfold oRes2 at hK
  refine br_ne k 0 rfl rfl (fun z => ?_) (fun z => ⟨vp_in_nI (by omega) (by decide), ?_⟩)
  · rw [if_pos z] at hK
    exact hK h1 dn
  rw [if_neg z] at hK
  have z : (pE (sP S i)).getD k 0 ≠ 0 := el_ne0 w lk z
  generalize (pE (sP S i)).getD k 0 = s at *
  have s1 : sm PD h h1 := ss.sub fun q z hq => hq.1
  refine for_up (σ := AH) (fun x hh => Ev (d + 3) g g m_M_restrict 46 [.ref A_M, .int (nI i), unk, .int (nI j), .int (nI s), .int (nI (rnk s x)), .int (nI x)] [] hh (asI K)) (fun x hh => Ext h hh ∧ sm PD h hh ∧ ∀ y, y < rnk s x → mi hh M_up (24 + y) = nI (upB (rnk s 6) (resR s (sP S i).2.1) y)) (sP S i).1 (fun hh hI => ?_) (fun x hh hx hI ih => ?_) 0 h1 (Nat.zero_le _) ⟨ee, s1, fun y hy => absurd hy (Nat.not_lt_zero y)⟩
  · obtain ⟨e, sa, hr⟩ := hI
    have o := ((I.kD W e sa).2.1 i hi).1
    refine w_M_restrict_46 (I.1.ext e) ⟨vp_in_nI (by omega) (by decide), ?_⟩
    rw [nI_clamp (n := i) (by omega), o.1]
    refine br_le _ _ rfl rfl (fun _ => ⟨vp_in_nI (by decide) (by decide), ?_⟩) (fun z => by omega)
    rw [nI_clamp (n := 4) (by decide)]
    rw [rnk_n _ (by omega) s sn] at hr ⊢
    exact S_set W hj I (e.trans (ext_wi _ _ _ _)) (sa.wi (fun q => q.2.1 ⟨rfl, rfl⟩)) (res_wf w sn z) mi_eq (fun x hx => by rw [mi_ne (by decide)]; exact hr x hx) fun h2 dn _ => hK h2 dn
  · obtain ⟨e, sa, hr⟩ := hI
    have o := ((I.kD W e sa).2.1 i hi).1
    have i1 := ih
    have rl := rnk_le s s64 x (by omega)
    refine w_M_restrict_46 (I.1.ext e) ⟨vp_in_nI (by omega) (by decide), ?_⟩
    rw [nI_clamp (n := i) (by omega), o.1]
    refine br_le _ x rfl rfl (fun z => by omega) (fun _ => ?_)
    rw [nm_tb s s64 x (by omega), nI_add x 1]
    refine (br_tb (fun hz => ?_) (fun hz => ?_)).symm
    · rw [rnk_f hz] at i1
      exact i1 hh ⟨e, sa, hr⟩
    · rw [rnk_t hz] at i1
      have q1 := (sel_inv s s64 x (by omega) hz).1
      have q2 := (rnk_le s s64 6 (by decide)).1
      refine for_up (σ := Unit) (fun y _ => Ev (d + 3) g g m_M_restrict 79 [.ref A_M, .int (nI i), unk, .int (nI j), .int (nI s), .int (nI (rnk s x)), .int (nI x), .int (nI (ren ((sP S i).2.1 x) s y)), .int (nI (rnk s y)), .int (nI y)] [] hh (asI K)) (fun _ _ => True) (sP S i).1 (fun _ _ => ?_) (fun y _ hy _ ih2 => ?_) 0 () (Nat.zero_le _) trivial
      · refine w_M_restrict_79 (I.1.ext e) ⟨vp_in_nI (by omega) (by decide), ?_⟩
        rw [nI_clamp (n := i) (by omega), o.1]
        refine br_le _ _ rfl rfl (fun _ => ?_) (fun z => by omega)
        rw [nI_add 24 _, nI_add (rnk s x) 1, nI_add x 1, nI_clamp (by omega), ren_n _ (by omega) s sn _ (w.u64 hx), res_up w sn hx hz]
        refine ⟨vp_in_nI (by omega) (by decide), i1 _ ⟨e.trans (ext_wi _ _ _ _), sa.wi (fun q => q.2.2 ⟨rfl, by omega⟩), fun y hy => ?_⟩⟩
        have hy : y < rnk s x + 1 := hy
        by_cases ey : y = rnk s x
        · subst ey; exact mi_eq
        · rw [mi_nj (fun (q : 24 + y = 24 + rnk s x) => ey (by omega))]; exact hr y (by omega)
      · have i3 := ih2 () trivial
        have rl := rnk_le s s64 y (by omega)
        refine w_M_restrict_79 (I.1.ext e) ⟨vp_in_nI (by omega) (by decide), ?_⟩
        rw [nI_clamp (n := i) (by omega), o.1]
        refine br_le _ y rfl rfl (fun z => by omega) (fun _ => ?_)
        rw [nm_tb s s64 y (by omega), nI_add y 1]
        have nl := ren_lt _ (w.u64 hx) s s64 y (by omega)
        refine (br_tb (fun hz2 => ?_) (fun hz2 => ?_)).symm
        · rw [rnk_f hz2, ren_f hz2] at i3
          exact i3
        · rw [rnk_t hz2, ren_t hz2] at i3
          refine S_MisLess (I.1.ext e) (by omega) o h6 (w.u64 hx) hx (by omega) fun _ => br_b (fun hz3 => ?_) (fun hz3 => ?_)
          · rw [nm_or _ nl 0 (by decide), nI_add _ 1]
            unfold le at hz3
            rw [hz3, if_neg (by decide), Nat.zero_mul] at i3
            exact i3
          · unfold le at hz3
            rw [hz3, if_pos rfl, Nat.one_mul] at i3
            rw [nm_bit1 _ (by omega), nm_or _ nl _ (p2_lt (by have := (sel_inv s s64 y (by omega) hz2).1; omega)), nI_add _ 1]
            exact i3
end ORES

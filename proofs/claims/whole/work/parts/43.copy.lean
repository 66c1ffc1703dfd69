/-! copyElements -/
abbrev cpOK (a b k : Int32) (n n2 : Nat) : Prop := 0 ≤ a.toInt ∧ 0 ≤ b.toInt ∧ 0 ≤ k.toInt ∧ a.toInt + k.toInt ≤ n ∧ b.toInt + k.toInt ≤ n2
theorem cpOK.nat {a b k : Int32} {n n2 : Nat} (c : cpOK a b k n n2) (hn : n ≤ 30) (hn2 : n2 ≤ 30) : ∃ x y z, a = nI x ∧ b = nI y ∧ k = nI z ∧ x + z ≤ n ∧ y + z ≤ n2 := by
  obtain ⟨c1, c2, c3, c4, c5⟩ := c
  have q : ∀ v : Int32, 0 ≤ v.toInt → v.toInt ≤ 30 → v = nI v.toInt.toNat := fun v h1 h2 => by
    apply Int32.toInt_inj.mp
    rw [nI_toInt (by omega)]
    omega
  exact ⟨a.toInt.toNat, b.toInt.toNat, k.toInt.toNat, q a c1 (by omega), q b c2 (by omega), q k c3 (by omega), by omega, by omega⟩
def oCp3 (S : St) (q t n n2 : Nat) (f f2 : Nat → Int32) (a b k : Int32) : Int32 × St := if cpOK a b k n n2 then (k, setR S q (some (t, n2, va_cpy f f2 a.toInt.toNat b.toInt.toNat k.toInt.toNat))) else (kE10, S)
def oCp2 (S : St) (q : Nat) (p1 p2 : RwT) (a b k : Int32) : Int32 × St := match p1, p2 with
  | some (t, n, f), some (t2, n2, f2) => if t = t2 then oCp3 S q t2 n n2 f f2 a b k else (kE9, S)
  | _, _ => (kE8, S)
def oCp (S : St) (v a w b k : Int32) : Int32 × St := match ix v 3, ix w 3 with
  | some r, some q => oCp2 S q (sR S r) (sR S q) a b k
  | _, _ => (m1, S)
section CP
variable {d g : Nat} {h : AH} {S : St} {K : Int32 → AH → Prop} {v a w b k : Int32} {r q t n n2 : Nat} {f f2 : Nat → Int32}
theorem oCp_v (e : ix v 3 = none) : oCp S v a w b k = (m1, S) := by unfold oCp; rw [e]
theorem oCp_w (e : ix w 3 = none) : oCp S v a w b k = (m1, S) := by unfold oCp; rw [e]; cases ix v 3 <;> rfl
theorem oCp_s (e1 : ix v 3 = some r) (e2 : ix w 3 = some q) : oCp S v a w b k = oCp2 S q (sR S r) (sR S q) a b k := by unfold oCp; rw [e1, e2]
theorem oCp2_a {p : RwT} : oCp2 S q none p a b k = (kE8, S) := rfl
theorem oCp2_b {p : RwT} : oCp2 S q p none a b k = (kE8, S) := by cases p <;> rfl
theorem oCp2_s {t2 : Nat} : oCp2 S q (some (t, n, f)) (some (t2, n2, f2)) a b k = if t = t2 then oCp3 S q t2 n n2 f f2 a b k else (kE9, S) := rfl
theorem oCp3_n (c : ¬ cpOK a b k n n2) : oCp3 S q t n n2 f f2 a b k = (kE10, S) := by unfold oCp3; rw [if_neg c]
theorem oCp3_s (c : cpOK a b k n n2) : oCp3 S q t n n2 f f2 a b k = (k, setR S q (some (t, n2, va_cpy f f2 a.toInt.toNat b.toInt.toNat k.toInt.toNat))) := by unfold oCp3; rw [if_pos c]
theorem WS.cp (W : WS S) : WS (oCp S v a w b k).2 := by
  cases e : ix v 3 with
  | none => rw [oCp_v e]; exact W
  | some r =>
    cases e1 : ix w 3 with
    | none => rw [oCp_w e1]; exact W
    | some q =>
      rw [oCp_s e e1]
      cases e2 : sR S r with
      | none => rw [oCp2_a]; exact W
      | some p1 =>
        cases e3 : sR S q with
        | none => rw [oCp2_b]; exact W
        | some p2 =>
          obtain ⟨t, n, f⟩ := p1
          obtain ⟨t2, n2, f2⟩ := p2
          rw [oCp2_s]
          have wr := W.2.2.2.2.2.1 q t2 n2 f2 (ix_some e1).1 e3
          by_cases c : t = t2
          · rw [if_pos c]
            by_cases c2 : cpOK a b k n n2
            · rw [oCp3_s c2]; exact W.atR wr.1 wr.2
            · rw [oCp3_n c2]; exact W
          · rw [if_neg c]; exact W
theorem sub_lt_iff {n : Nat} {x y : Int32} (hn : n ≤ 30) (h0 : 0 ≤ x.toInt) (h1 : x.toInt ≤ n) : (nI n - x < y) ↔ (n : Int) - x.toInt < y.toInt := by
  have e : x = nI x.toInt.toNat := by
    apply Int32.toInt_inj.mp
    rw [nI_toInt (by omega)]
    omega
  have e2 : (nI n - x).toInt = (n : Int) - x.toInt := by
    rw [e, pk_sub_toInt (by omega) (by omega), nI_toInt (by omega)]
  rw [Int32.lt_iff_toInt_lt, e2]
theorem S_hasRange {x y : Int32} (fr : is_R h (aR r)) (e : mi h (aR r) 1 = nI n) (hn : n ≤ 30) (A : ¬ (0 ≤ x.toInt ∧ 0 ≤ y.toInt ∧ x.toInt + y.toInt ≤ n) → K (nI 0) h) (B : (0 ≤ x.toInt ∧ 0 ≤ y.toInt ∧ x.toInt + y.toInt ≤ n) → K (nI 1) h) : Ev d g g m_R_hasRange 0 [.ref (aR r), .int x, .int y] [] h (asI K) := by
  refine w_R_hasRange_0 fr ?_
  rw [e]
  have z0 : ∀ v : Int32, v < 0 ↔ v.toInt < 0 := fun v => Int32.lt_iff_toInt_lt
  have z1 : nI n < y ↔ (n : Int) < y.toInt := by rw [Int32.lt_iff_toInt_lt, nI_toInt (by omega)]
  refine ⟨fun c => A fun q => ?_, fun c => ⟨fun c2 => A fun q => ?_, fun c2 => ⟨fun c3 => A fun q => ?_, fun c3 => ?_⟩⟩⟩
  · have := (z0 x).mp c; omega
  · have := (z0 y).mp c2; omega
  · have := z1.mp c3; omega
  have a1 : ¬ x.toInt < 0 := fun q => c ((z0 x).mpr q)
  have a2 : ¬ y.toInt < 0 := fun q => c2 ((z0 y).mpr q)
  have a3 : ¬ (n : Int) < y.toInt := fun q => c3 (z1.mpr q)
  have z2 := sub_lt_iff (n := n) (x := y) (y := x) hn (by omega) (by omega)
  refine ⟨fun c4 => A fun q => ?_, fun c4 => B ?_⟩
  · have := z2.mp c4; omega
  · have a4 : ¬ (n : Int) - y.toInt < x.toInt := fun q => c4 (z2.mpr q)
    omega
theorem C_copyElements (W : WS S) (I : InvC h S) (hK : ∀ h1, doneC (oCp S v a w b k).2 h h1 → K (oCp S v a w b k).1 h1) : Ev (d + 1) g g m_C_copyElements 0 [.ref A_x, .int v, .int a, .int w, .int b, .int k] [] h (asI K) := by
  have bad : oCp S v a w b k = (m1, S) → K m1 h := fun e => by rw [e] at hK; exact hK h (doneC.rf I)
  refine w_C_copyElements_0 I.1 (S_rowAt I.1 (fun e => ?_) (fun r hr _ fr e1 => ⟨fr, ?_⟩))
  · have kk := bad (oCp_v e)
    exact S_rowAt I.1 (fun _ => kk) (fun l _ _ fp _ => ⟨fp, kk⟩)
  refine S_rowAt I.1 (fun e => bad (oCp_w e)) (fun q hq _ fq e2 => ⟨fq, ?_⟩)
  rw [oCp_s e1 e2] at hK
  cases e3 : sR S r with
  | none =>
    rw [e3, oCp2_a] at hK
    exact S_missN fr (rowCn I hr e3) fun _ => ⟨fun _ => hK h (doneC.rf I), fun z => absurd z (by decide)⟩
  | some p1 =>
    obtain ⟨t, n, f⟩ := p1
    have w1 := W.2.2.2.2.2.1 r t n f hr e3
    obtain ⟨c1, c2, c3⟩ := rowCs I hr e3
    refine S_missS fr c2 w1.2 fun _ => ⟨fun z => absurd rfl z, fun _ => ?_⟩
    cases e4 : sR S q with
    | none =>
      rw [e4, oCp2_b] at hK
      exact S_missN fq (rowCn I hq e4) fun _ => ⟨fun z => absurd z (by decide), fun _ => hK h (doneC.rf I)⟩
    | some p2 =>
      obtain ⟨t2, n2, f2⟩ := p2
      rw [e3, e4, oCp2_s] at hK
      have w2 := W.2.2.2.2.2.1 q t2 n2 f2 hq e4
      obtain ⟨b1, b2, b3⟩ := rowCs I hq e4
      refine S_missS fq b2 w2.2 fun _ => ⟨fun _ => ?_, fun z => absurd rfl z⟩
      rw [c1, b1]
      refine br_eq t t2 rfl rfl (fun ht => ?_) (fun ht => by rw [if_neg ht] at hK; exact hK h (doneC.rf I))
      rw [if_pos ht] at hK
      refine S_hasRange fr c2 w1.2 (fun z _ => ⟨fun _ => ?_, fun q => absurd rfl q⟩) (fun z _ => ⟨fun q => absurd q (by decide), fun _ => ?_⟩)
      · rw [oCp3_n (fun q => z ⟨q.1, q.2.2.1, q.2.2.2.1⟩)] at hK
        exact hK h (doneC.rf I)
      refine S_hasRange fq b2 w2.2 (fun y _ => ⟨fun q => absurd rfl q, fun _ => ?_⟩) (fun y _ => ⟨fun _ => ?_, fun q => absurd q (by decide)⟩)
      · rw [oCp3_n (fun q => y ⟨q.2.1, q.2.2.1, q.2.2.2.2⟩)] at hK
        exact hK h (doneC.rf I)
      have ok : cpOK a b k n n2 := ⟨z.1, y.1, z.2.1, z.2.2, y.2.2⟩
      rw [oCp3_s ok] at hK
      obtain ⟨x1, x2, x3, rfl, rfl, rfl, l1, l2⟩ := ok.nat w1.2 w2.2
      have w12 := w1.2
      have w22 := w2.2
      rw [nI_toInt (n := x1) (by omega), nI_toInt (n := x2) (by omega), nI_toInt (n := x3) (by omega)] at hK
      rw [nI_clamp (n := x1) (by omega), nI_clamp (n := x2) (by omega), nI_clamp (n := x3) (by omega)]
      refine ⟨⟨nI_nl (by omega), nI_nl (by omega), nI_nl (by omega), by omega, by omega⟩, hK _ ⟨InvC.atR I (ext_wa _ _ _) (fun y j hy => ⟨?_, rfl⟩) ⟨?_, ?_, fun j hj => ?_⟩, ext_wa _ _ _, fun y j hy => ⟨?_, rfl⟩⟩⟩
      · rw [mi_wa, if_neg hy.2.2]
      · rw [mi_wa, if_neg (by omega)]; exact b1
      · rw [mi_wa, if_neg (by omega)]; exact b2
      · rw [mi_wa, if_pos rfl]
        show va_cpy (mi h (aR r + 1)) (mi h (aR q + 1)) x1 x2 x3 j = va_cpy f f2 x1 x2 x3 j
        unfold va_cpy
        by_cases cc : x2 ≤ j ∧ j < x2 + x3
        · rw [if_pos cc, if_pos cc]; exact c3 _ (by omega)
        · rw [if_neg cc, if_neg cc]; exact b3 j hj
      · rw [mi_wa, if_neg (by simp only [aR]; omega)]
theorem lgc_le (x y : Int64) : lg_cmp x y ≤ 0 ↔ ¬ 0 < lg_cmp x y := by
  rw [Int32.le_iff_toInt_le, Int32.lt_iff_toInt_lt]
  omega
theorem add64 {x y : Int32} (h1 : 0 ≤ x.toInt) (h2 : 0 ≤ y.toInt) : (x.toInt64 + y.toInt64).toInt = x.toInt + y.toInt := by
  have a1 := Int32.toInt_lt x
  have a2 := Int32.toInt_lt y
  rw [Int64.toInt_add, Int32.toInt_toInt64, Int32.toInt_toInt64]
  exact Int.bmod_eq_of_le (by omega) (by omega)
theorem nI_ix30b {i x y : Nat} : nI 30 * nI i + nI x + nI y = nI (30 * i + (x + y)) := by rw [pk_mul, nI_add, nI_add, Nat.add_assoc]
theorem M_copyElements (W : WS S) (I : InvM h S) (hK : ∀ h1, doneM (oCp S v a w b k).2 h h1 → K (oCp S v a w b k).1 h1) : Ev (d + 1) g g m_M_copyElements 0 [.ref A_M, .int v, .int a, .int w, .int b, .int k] [] h (asI K) := by
  have bad : oCp S v a w b k = (m1, S) → K m1 h := fun e => by rw [e] at hK; exact hK h (doneM.rf I)
  refine w_M_copyElements_0 I.1 (S_isR (fun e => bad (oCp_v e)) (fun r hr hv e1 => S_isR' (fun e => bad (oCp_w e)) (fun q hq hw e2 => ?_)))
  subst hv hw
  rw [oCp_s e1 e2] at hK
  have vr : vp_in (nI r) 3 := vp_in_nI hr (by decide)
  have vq : vp_in (nI q) 3 := vp_in_nI hq (by decide)
  rw [nI_clamp (n := r) (by omega), nI_clamp (n := q) (by omega)]
  cases e3 : sR S r with
  | none =>
    rw [e3, oCp2_a] at hK
    rw [rowMn I hr e3]
    exact ⟨vr, fun _ => hK h (doneM.rf I), fun z => absurd m1_lt z⟩
  | some p1 =>
    obtain ⟨t, n, f⟩ := p1
    have w1 := W.2.2.2.2.2.1 r t n f hr e3
    obtain ⟨c1, c2, c3⟩ := rowMs I hr e3
    have w11 := w1.1
    have w12 := w1.2
    rw [c1, c2]
    refine ⟨vr, fun z => absurd z (nI_nl (by omega)), fun _ => ⟨vq, ?_⟩⟩
    cases e4 : sR S q with
    | none =>
      rw [e4, oCp2_b] at hK
      rw [rowMn I hq e4]
      exact ⟨fun z => absurd z m1_neg, fun _ => hK h (doneM.rf I)⟩
    | some p2 =>
      obtain ⟨t2, n2, f2⟩ := p2
      rw [e3, e4, oCp2_s] at hK
      have w2 := W.2.2.2.2.2.1 q t2 n2 f2 hq e4
      obtain ⟨b1, b2, b3⟩ := rowMs I hq e4
      have w21 := w2.1
      have w22 := w2.2
      rw [b1, b2]
      refine ⟨fun _ => ⟨vr, vq, ?_⟩, fun z => absurd (nI_nn (by omega)) z⟩
      refine br_eq t t2 rfl rfl (fun ht => ?_) (fun ht => by rw [if_neg ht] at hK; exact hK h (doneM.rf I))
      rw [if_pos ht] at hK
      have z0 : ∀ v : Int32, v < 0 ↔ v.toInt < 0 := fun v => Int32.lt_iff_toInt_lt
      have no : ¬ cpOK a b k n n2 → K kE10 h := fun c => by rw [oCp3_n c] at hK; exact hK h (doneM.rf I)
      refine ⟨fun c => no fun y => ?_, fun g1 => ⟨fun c => no fun y => ?_, fun g2 => ⟨fun c => no fun y => ?_, fun g3 => ⟨vr, ?_⟩⟩⟩⟩
      · have := (z0 a).mp c; have := y.1; omega
      · have := (z0 b).mp c; have := y.2.1; omega
      · have := (z0 k).mp c; have := y.2.2.1; omega
      have a1 : ¬ a.toInt < 0 := fun y => g1 ((z0 a).mpr y)
      have a2 : ¬ b.toInt < 0 := fun y => g2 ((z0 b).mpr y)
      have a3 : ¬ k.toInt < 0 := fun y => g3 ((z0 k).mpr y)
      have t1 : 0 < lg_cmp (a.toInt64 + k.toInt64) (nI n).toInt64 ↔ (n : Int) < a.toInt + k.toInt := by
        rw [lgc_gt, add64 (by omega) (by omega), Int32.toInt_toInt64, nI_toInt (by omega)]
      have t2' : 0 < lg_cmp (b.toInt64 + k.toInt64) (nI n2).toInt64 ↔ (n2 : Int) < b.toInt + k.toInt := by
        rw [lgc_gt, add64 (by omega) (by omega), Int32.toInt_toInt64, nI_toInt (by omega)]
      refine ⟨fun c => no fun y => ?_, fun g4 => ⟨vq, fun g5 => ?_, fun c => no fun y => ?_⟩⟩
      · have := t1.mp c; have := y.2.2.2.1; omega
      rotate_left
      · rw [lgc_le] at c
        have := t2'.mp (Classical.byContradiction c); have := y.2.2.2.2; omega
      have a4 : ¬ (n : Int) < a.toInt + k.toInt := fun y => g4 (t1.mpr y)
      have a5 : ¬ (n2 : Int) < b.toInt + k.toInt := fun y => (lgc_le _ _).mp g5 (t2'.mpr y)
      have ok : cpOK a b k n n2 := ⟨by omega, by omega, by omega, by omega, by omega⟩
      rw [oCp3_s ok] at hK
      obtain ⟨x1, x2, x3, rfl, rfl, rfl, l1, l2⟩ := ok.nat w1.2 w2.2
      rw [nI_toInt (n := x1) (by omega), nI_toInt (n := x2) (by omega), nI_toInt (n := x3) (by omega)] at hK
      refine for_up (σ := AH) (fun j hh => Ev (d + 1) g g m_M_copyElements 110 [.ref A_M, .int (nI r), .int (nI x1), .int (nI q), .int (nI x2), .int (nI x3), .int (nI j)] [] hh (asI K)) (fun j hh => Ext h hh ∧ sm (fun y _ => y ≠ 93) h hh ∧ ∀ y, y < j → mi hh M_moved y = f (x1 + y)) x3 (fun hh hI => ?_) (fun j hh hj hI ih => ?_) 0 h (Nat.zero_le _) ⟨Ext.rfl', sm.rf, fun y hy => by omega⟩
      · obtain ⟨ee, sa, hm⟩ := hI
        refine w_M_copyElements_110 (I.1.ext ee) (br_le x3 x3 rfl rfl (fun _ => ?_) (fun z => by omega))
        refine for_up (σ := AH) (fun j hh => Ev (d + 1) g g m_M_copyElements 147 [.ref A_M, unk, unk, .int (nI q), .int (nI x2), .int (nI x3), .int (nI j)] [] hh (asI K)) (fun j hh => Ext h hh ∧ sm (fun y z => y ≠ 93 ∧ ¬ (y = 92 ∧ 30 * q ≤ z ∧ z < 30 * q + 30)) h hh ∧ (∀ y, y < x3 → mi hh M_moved y = f (x1 + y)) ∧ ∀ y, y < n2 → mi hh M_rows (30 * q + y) = if x2 ≤ y ∧ y < x2 + j then f (x1 + (y - x2)) else f2 y) x3 (fun hh hI => ?_) (fun j hh hj hI ih => ?_) 0 hh (Nat.zero_le _) ⟨ee, sa.sub fun y z hy => hy.1, hm, fun y hy => by rw [if_neg (by omega), (sa M_rows _ (by show (92 : Nat) ≠ 93; decide)).1]; exact b3 y hy⟩
        · obtain ⟨ee, sa, hm, hz⟩ := hI
          refine w_M_copyElements_147 (I.1.ext ee) (br_le x3 x3 rfl rfl (fun _ => hK hh ⟨InvM.atR W I ee (sa.sub fun y z hy => ⟨?_, hy.2.2.2⟩) ⟨?_, ?_, fun y hy => hz y hy⟩, ee, sa.sub fun y z hy => ?_⟩) (fun z => by omega))
          · have h1 := hy.1
            simp only [PMx, M_size, M_elements, M_numberOf, M_made, M_pending, M_given, M_stack, M_map, M_moved, M_up] at h1
            omega
          · exact (sa _ _ ⟨by decide, fun z => absurd z.1 (by decide)⟩).1.trans b1
          · exact (sa _ _ ⟨by decide, fun z => absurd z.1 (by decide)⟩).1.trans b2
          · omega
        · obtain ⟨ee, sa, hm, hz⟩ := hI
          refine w_M_copyElements_147 (I.1.ext ee) (br_le x3 j rfl rfl (fun z => by omega) (fun _ => ?_))
          rw [nI_ix30b, nI_add, nI_clamp (n := j) (by omega), nI_clamp (by omega), hm j hj]
          refine ⟨vp_in_nI (by omega) (by decide), vp_in_nI (by omega) (by decide), ih _ ⟨ee.trans (ext_wi _ _ _ _), sa.wi (fun y => y.2 ⟨rfl, by omega, by omega⟩), fun y hy => by rw [mi_ne (by decide)]; exact hm y hy, fun y hy => ?_⟩⟩
          by_cases cy : y = x2 + j
          · subst cy
            rw [mi_eq, if_pos (by omega), show x2 + j - x2 = j by omega]
          · rw [mi_nj (fun (z : 30 * q + y = 30 * q + (x2 + j)) => cy (by omega)), hz y hy]
            by_cases c5 : x2 ≤ y ∧ y < x2 + j
            · rw [if_pos c5, if_pos (by omega)]
            · rw [if_neg c5, if_neg (by omega)]
      · obtain ⟨ee, sa, hm⟩ := hI
        refine w_M_copyElements_110 (I.1.ext ee) (br_le x3 j rfl rfl (fun z => by omega) (fun _ => ?_))
        rw [nI_ix30b, nI_add, nI_clamp (n := j) (by omega), nI_clamp (by omega), (sa M_rows _ (by show (92 : Nat) ≠ 93; decide)).1, c3 _ (by omega)]
        refine ⟨vp_in_nI (by omega) (by decide), vp_in_nI (by omega) (by decide), ih _ ⟨ee.trans (ext_wi _ _ _ _), sa.wi (fun y => y rfl), fun y hy => ?_⟩⟩
        by_cases cy : y = j
        · subst cy; exact mi_eq
        · rw [mi_nj cy]; exact hm y (by omega)
end CP
/-! storeElements -/
def oSt2 (S : St) (r i : Nat) (p : RwT) : Int32 × St := match p with
  | none => (kE8, S)
  | some (t, n, f) => (if n < (pE (sP S i)).length then kE10 else nI (pE (sP S i)).length, setR S r (some (t, n, fun k => if k < (pE (sP S i)).length then nar t (nI ((pE (sP S i)).getD k 0)) else f k)))
def oSto (S : St) (v w : Int32) : Int32 × St := match ix v 3, ix w 4 with
  | some r, some i => oSt2 S r i (sR S r)
  | _, _ => (m1, S)
section STO
variable {d g : Nat} {h : AH} {S : St} {K : Int32 → AH → Prop} {v w : Int32} {r i t n : Nat} {f : Nat → Int32}
theorem oSto_v (e : ix v 3 = none) : oSto S v w = (m1, S) := by unfold oSto; rw [e]
theorem oSto_w (e : ix w 4 = none) : oSto S v w = (m1, S) := by unfold oSto; rw [e]; cases ix v 3 <;> rfl
theorem oSto_s (e1 : ix v 3 = some r) (e2 : ix w 4 = some i) : oSto S v w = oSt2 S r i (sR S r) := by unfold oSto; rw [e1, e2]
theorem WS.sto (W : WS S) : WS (oSto S v w).2 := by
  cases e : ix v 3 with
  | none => rw [oSto_v e]; exact W
  | some r =>
    cases e1 : ix w 4 with
    | none => rw [oSto_w e1]; exact W
    | some i =>
      rw [oSto_s e e1]
      cases e2 : sR S r with
      | none => exact W
      | some p =>
        obtain ⟨t, n, f⟩ := p
        have wr := W.2.2.2.2.2.1 r t n f (ix_some e).1 e2
        exact W.atR wr.1 wr.2
theorem C_storeElements (W : WS S) (I : InvC h S) (hK : ∀ h1, doneC (oSto S v w).2 h h1 → K (oSto S v w).1 h1) : Ev (d + 1) g g m_C_storeElements 0 [.ref A_x, .int v, .int w] [] h (asI K) := by
  have bad : oSto S v w = (m1, S) → K m1 h := fun e => by rw [e] at hK; exact hK h (doneC.rf I)
  refine w_C_storeElements_0 I.1 (S_rowAt I.1 (fun e => ?_) (fun r hr _ fr e1 => ⟨fr, ?_⟩))
  · have kk := bad (oSto_v e)
    exact S_posetAt I.1 (fun _ => kk) (fun l _ _ fp _ => ⟨fp, kk⟩)
  refine S_posetAt I.1 (fun e => bad (oSto_w e)) (fun i hi _ fi e2 => ⟨fi, ?_⟩)
  rw [oSto_s e1 e2] at hK
  cases e3 : sR S r with
  | none =>
    rw [e3] at hK
    exact S_missN fr (rowCn I hr e3) fun _ => ⟨fun z => absurd z (by decide), fun _ => hK h (doneC.rf I)⟩
  | some p =>
    obtain ⟨t, n, f⟩ := p
    rw [e3] at hK
    have w1 := W.2.2.2.2.2.1 r t n f hr e3
    have w12 := w1.2
    obtain ⟨c1, c2, c3⟩ := rowCs I hr e3
    have hl : (pE (sP S i)).length ≤ 64 := elems_len (up := (sP S i).2.1) (W.1 i hi).1.1.2
    have el : ELp (mi h (aP i + 3)) (mi h (aP i + 4)) (mi h (aP i) 3) (pE (sP S i)) := (I.2.1 i hi).2.2.1
    refine S_missS fr c2 w1.2 fun _ => ⟨fun _ => ?_, fun z => absurd rfl z⟩
    rw [c2, el.1]
    have mn : (if nI n < nI (pE (sP S i)).length then nI n else nI (pE (sP S i)).length) = nI (min n (pE (sP S i)).length) := by
      by_cases c : n < (pE (sP S i)).length
      · rw [if_pos ((nI_ltI (by omega) (by omega)).mpr c), Nat.min_eq_left (by omega)]
      · rw [if_neg (fun q => c ((nI_ltI (by omega) (by omega)).mp q)), Nat.min_eq_right (by omega)]
    rw [mn]
    have hK : ∀ h1, doneC (setR S r (some (t, n, fun k => if k < (pE (sP S i)).length then nar t (nI ((pE (sP S i)).getD k 0)) else f k))) h h1 → K (if n < (pE (sP S i)).length then kE10 else nI (pE (sP S i)).length) h1 := hK
    generalize pE (sP S i) = L at *
    refine for_up (σ := AH) (fun j hh => Ev (d + 1) g g m_C_storeElements 51 [unk, unk, unk, .ref (aR r), .ref (aP i), .int (nI (min n L.length)), .int (nI j)] [] hh (asI K)) (fun j hh => Ext h hh ∧ same (fun y => y ≠ aR r + 1) h hh ∧ ∀ y, y < n → mi hh (aR r + 1) y = if y < j then nar t (nI (L.getD y 0)) else f y) (min n L.length) (fun hh hI => ?_) (fun j hh hj hI ih => ?_) 0 h (Nat.zero_le _) ⟨Ext.rfl', same.rf, fun y hy => by rw [if_neg (by omega)]; exact c3 y hy⟩
    · obtain ⟨ee, sa, hz⟩ := hI
      refine w_C_storeElements_51 (fr.ext ee) (fi.ext ee) (br_le _ _ rfl rfl (fun _ => ?_) (fun z => by omega))
      rw [(sa (aP i) (by simp only [aP, aR]; omega)).1, el.1]
      have dn : doneC (setR S r (some (t, n, fun k => if k < L.length then nar t (nI (L.getD k 0)) else f k))) h hh := by
        refine ⟨InvC.atR I ee (sa.sm.sub fun y z hy => hy.2.2) ⟨((sa _ (by omega)).1 0).trans c1, ((sa _ (by omega)).1 1).trans c2, fun y hy => ?_⟩, ee, sa.sm.sub fun y z hy => ?_⟩
        · rw [hz y hy]
          show _ = if y < L.length then nar t (nI (L.getD y 0)) else f y
          by_cases c : y < L.length
          · rw [if_pos (by omega), if_pos c]
          · rw [if_neg (by omega), if_neg c]
        · simp only [aR]; omega
      refine br_le L.length (min n L.length) rfl rfl (fun c => ?_) (fun c => ?_)
      · have k := hK hh dn
        rw [if_neg (by omega)] at k
        exact k
      · have k := hK hh dn
        rw [if_pos (by omega)] at k
        exact k
    · obtain ⟨ee, sa, hz⟩ := hI
      refine w_C_storeElements_51 (fr.ext ee) (fi.ext ee) (br_le _ j rfl rfl (fun z => by omega) (fun _ => ⟨vp_in_nI (by omega) (by decide), ?_⟩))
      rw [nI_clamp (by omega), (sa (aP i + 3) (by simp only [aP, aR]; omega)).1, el.2.1 j (by omega)]
      refine S_narrowed (fr.ext ee) (((sa _ (by omega)).1 0).trans c1) w1.1 fun _ => ⟨vp_in_nI (by omega) (by decide), ?_⟩
      rw [nI_add]
      refine ih _ ⟨ee.trans (ext_wi _ _ _ _), sa.wi (fun y => y rfl), fun y hy => ?_⟩
      by_cases c : y = j
      · subst c; rw [mi_eq, if_pos (by omega)]
      · rw [mi_nj c, hz y hy]
        by_cases c5 : y < j
        · rw [if_pos c5, if_pos (by omega)]
        · rw [if_neg c5, if_neg (by omega)]
theorem M_storeElements (W : WS S) (I : InvM h S) (hK : ∀ h1, doneM (oSto S v w).2 h h1 → K (oSto S v w).1 h1) : Ev (d + 3) g g m_M_storeElements 0 [.ref A_M, .int v, .int w] [] h (asI K) := by
  have bad : oSto S v w = (m1, S) → K m1 h := fun e => by rw [e] at hK; exact hK h (doneM.rf I)
  refine w_M_storeElements_0 I.1 (S_isR (fun e => bad (oSto_v e)) (fun r hr hv e1 => S_fnd' W I (fun e => bad (oSto_w e)) (fun i hi hw e2 h1 dn el => ?_)))
  subst hv hw
  rw [oSto_s e1 e2] at hK
  have vr : vp_in (nI r) 3 := vp_in_nI hr (by decide)
  obtain ⟨I1, ee1, fr1⟩ := dn
  rw [nI_clamp (n := r) (by omega)]
  cases e3 : sR S r with
  | none =>
    rw [e3] at hK
    rw [rowMn I1 hr e3]
    exact ⟨vr, fun z => absurd z m1_neg, fun _ => hK h1 ⟨I1, ee1, fr1⟩⟩
  | some p =>
    obtain ⟨t, n, f⟩ := p
    rw [e3] at hK
    have w1 := W.2.2.2.2.2.1 r t n f hr e3
    have w11 := w1.1
    have w12 := w1.2
    obtain ⟨c1, c2, c3⟩ := rowMs I1 hr e3
    have hl : (pE (sP S i)).length ≤ 64 := elems_len (up := (sP S i).2.1) (W.1 i hi).1.1.2
    rw [c1]
    refine ⟨vr, fun _ => ?_, fun z => absurd (nI_nn (by omega)) z⟩
    have hK : ∀ h1, doneM (setR S r (some (t, n, fun k => if k < (pE (sP S i)).length then nar t (nI ((pE (sP S i)).getD k 0)) else f k))) h h1 → K (if n < (pE (sP S i)).length then kE10 else nI (pE (sP S i)).length) h1 := hK
    generalize pE (sP S i) = L at *
    have fin : ∀ hh, Ext h1 hh → sm (fun y z => ¬ (y = 92 ∧ 30 * r ≤ z ∧ z < 30 * r + 30)) h1 hh → (∀ y, y < n → mi hh M_rows (30 * r + y) = if y < L.length then nar t (nI (L.getD y 0)) else f y) → doneM (setR S r (some (t, n, fun k => if k < L.length then nar t (nI (L.getD k 0)) else f k))) h hh := fun hh ee sa hz => by
      refine ⟨InvM.atR W I1 ee (sa.sub fun y z hy => hy.2.2.2) ⟨(sa _ _ (fun z => absurd z.1 (by decide))).1.trans c1, (sa _ _ (fun z => absurd z.1 (by decide))).1.trans c2, hz⟩, ee1.trans ee, fr1.trans (sa.sub fun y z hy => ?_)⟩
      omega
    refine for_up (σ := AH) (fun j hh => Ev (d + 3) g g m_M_storeElements 31 [.ref A_M, .int (nI r), unk, .int (nI j)] [] hh (asI K)) (fun j hh => Ext h1 hh ∧ sm (fun y z => ¬ (y = 92 ∧ 30 * r ≤ z ∧ z < 30 * r + 30)) h1 hh ∧ ∀ y, y < n → mi hh M_rows (30 * r + y) = if y < j then nar t (nI (L.getD y 0)) else f y) (min n L.length) (fun hh hI => ?_) (fun j hh hj hI ih => ?_) 0 h1 (Nat.zero_le _) ⟨Ext.rfl', sm.rf, fun y hy => by rw [if_neg (by omega)]; exact c3 y hy⟩
    · obtain ⟨ee, sa, hz⟩ := hI
      have dn := fin hh ee sa fun y hy => by
        rw [hz y hy]
        by_cases c : y < L.length
        · rw [if_pos (by omega), if_pos c]
        · rw [if_neg (by omega), if_neg c]
      have k := hK hh dn
      have m5 : mi hh A_M 5 = nI L.length := (sa _ _ (fun z => absurd z.1 (by decide))).1.trans el.1
      have ml : mi hh M_rowLength r = nI n := (sa _ _ (fun z => absurd z.1 (by decide))).1.trans c2
      have two : (nI L.length ≤ nI n → K (nI L.length) hh) ∧ (¬ nI L.length ≤ nI n → K kE10 hh) := br_le L.length n rfl rfl (fun c => by rw [if_neg (by omega)] at k; exact k) (fun c => by rw [if_pos c] at k; exact k)
      refine w_M_storeElements_31 (I1.1.ext ee) ?_
      rw [nI_clamp (n := r) (by omega), m5, ml]
      refine br_le L.length (min n L.length) rfl rfl (fun _ => ⟨vr, two⟩) (fun c => ⟨vr, br_le n (min n L.length) rfl rfl (fun _ => ⟨vr, two⟩) (fun c2 => by omega)⟩)
    · obtain ⟨ee, sa, hz⟩ := hI
      have m5 : mi hh A_M 5 = nI L.length := (sa _ _ (fun z => absurd z.1 (by decide))).1.trans el.1
      have ml : mi hh M_rowLength r = nI n := (sa _ _ (fun z => absurd z.1 (by decide))).1.trans c2
      refine w_M_storeElements_31 (I1.1.ext ee) ?_
      rw [nI_clamp (n := r) (by omega), m5, ml, nI_clamp (n := j) (by omega), (sa M_elements _ (fun z => absurd z.1 (by decide))).1, el.2.1 j (by omega)]
      refine br_le L.length j rfl rfl (fun c => by omega) (fun c => ⟨vr, br_le n j rfl rfl (fun c => by omega) (fun c2 => ⟨vp_in_nI (by omega) (by decide), ?_⟩)⟩)
      refine S_Mputs (I1.1.ext ee) hr (by omega) ((sa _ _ (fun z => absurd z.1 (by decide))).1.trans c1) w1.1 fun _ => ?_
      rw [nI_add]
      refine ih _ ⟨ee.trans (ext_wi _ _ _ _), sa.wi (fun y => y ⟨rfl, by omega, by omega⟩), fun y hy => ?_⟩
      by_cases c : y = j
      · subst c; rw [mi_eq, if_pos (by omega)]
      · rw [mi_nj (fun (z : 30 * r + y = 30 * r + j) => c (by omega)), hz y hy]
        by_cases c5 : y < j
        · rw [if_pos c5, if_pos (by omega)]
        · rw [if_neg c5, if_neg (by omega)]
end STO

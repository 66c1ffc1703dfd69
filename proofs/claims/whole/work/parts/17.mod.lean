/-! the reference: frames by field, its order, its elements -/
def sm (P : Nat → Nat → Prop) (h h1 : AH) : Prop := ∀ a i, P a i → mi h1 a i = mi h a i ∧ ml h1 a i = ml h a i
theorem sm.rf {P : Nat → Nat → Prop} {h : AH} : sm P h h := fun _ _ _ => ⟨rfl, rfl⟩
theorem sm.trans {P : Nat → Nat → Prop} {h h1 h2 : AH} (a : sm P h h1) (b : sm P h1 h2) : sm P h h2 := fun x i hx => ⟨(b x i hx).1.trans (a x i hx).1, (b x i hx).2.trans (a x i hx).2⟩
theorem sm.wi {P : Nat → Nat → Prop} {h h1 : AH} (s : sm P h h1) {x i : Nat} {v : Int32} (hx : ¬ P x i) : sm P h (wi h1 x i v) := fun y j hy => ⟨by rw [mi_wi, if_neg (fun (q : y = x ∧ j = i) => hx (q.1 ▸ q.2 ▸ hy))]; exact (s y j hy).1, (s y j hy).2⟩
theorem sm.wl {P : Nat → Nat → Prop} {h h1 : AH} (s : sm P h h1) {x i : Nat} {v : Int64} (hx : ¬ P x i) : sm P h (wl h1 x i v) := fun y j hy => ⟨(s y j hy).1, by rw [ml_wl, if_neg (fun (q : y = x ∧ j = i) => hx (q.1 ▸ q.2 ▸ hy))]; exact (s y j hy).2⟩
theorem sm.sub {P P' : Nat → Nat → Prop} {h h1 : AH} (s : sm P h h1) (hp : ∀ x i, P' x i → P x i) : sm P' h h1 := fun x i hx => s x i (hp x i hx)
theorem same.sm {P : Nat → Prop} {h h1 : AH} (s : same P h h1) : sm (fun a _ => P a) h h1 := fun a i hp => ⟨(s a hp).1 i, (s a hp).2 i⟩
theorem br_tb1 {b : Bool} {A B : Prop} (f : b = false → A) (g : b = true → B) : (¬ nI (if b = true then 1 else 0) = nI 1 → A) ∧ (nI (if b = true then 1 else 0) = nI 1 → B) := by
  cases b
  · exact ⟨fun _ => f rfl, fun h => absurd h (by decide)⟩
  · exact ⟨fun h => absurd rfl h, fun _ => g rfl⟩
/-- the order number i as the reference holds it -/
def MO (h : AH) (i n : Nat) (up : Nat → Nat) : Prop := mi h M_size i = nI n ∧ ∀ x, x < n → mi h M_up (6 * i + x) = nI (up x)
theorem MO.keep {h h1 : AH} {i n : Nat} {up : Nat → Nat} {P : Nat → Nat → Prop} (o : MO h i n up) (s : sm P h h1) (p0 : P M_size i) (p1 : ∀ x, x < n → P M_up (6 * i + x)) : MO h1 i n up := ⟨(s _ _ p0).1.trans o.1, fun x hx => (s _ _ (p1 x hx)).1.trans (o.2 x hx)⟩
theorem nI_ix {i x : Nat} : nI 6 * nI i + nI x = nI (6 * i + x) := by rw [pk_mul, nI_add]
theorem nI_ix3 {i x : Nat} : nI 3 * nI i + nI x = nI (3 * i + x) := by rw [pk_mul, nI_add]
section MLEAF
variable {d g n i x y s : Nat} {up : Nat → Nat} {h : AH} {K : Int32 → AH → Prop}
theorem S_MisPoset {v : Int32} (hK : K (bI (ix v 4).isSome) h) : Ev d g g m_M_isPoset 0 [.int v] [] h (asI K) := by
  refine w_M_isPoset_0 ?_
  exact br_ix (by omega) (fun e => by rw [e] at hK; exact hK) (fun j e => by rw [e] at hK; exact hK)
theorem S_MisPoint {v : Int32} (fM : is_M h) (hi : i < 5) (o : mi h M_size i = nI n) (hn : n ≤ 6) (hK : K (bI (ix v n).isSome) h) : Ev d g g m_M_isPoint 0 [.ref A_M, .int (nI i), .int v] [] h (asI K) := by
  refine w_M_isPoint_0 fM ?_
  rw [nI_clamp (by omega), o]
  have := br_ix (v := v) (n := n) (A := K (nI 0) h) (B := K (nI 1) h) (by omega) (fun e => by rw [e] at hK; exact hK) (fun j e => by rw [e] at hK; exact hK)
  exact ⟨this.1, fun z => ⟨vp_in_nI (by omega) (by decide), this.2 z⟩⟩
theorem S_MisLess (fM : is_M h) (hi : i < 5) (o : MO h i n up) (h6 : n ≤ 6) (hu : up x < 64) (hx : x < n) (hy : y < 6) (hK : K (bI (le up x y)) h) : Ev d g g m_M_isLess 0 [.ref A_M, .int (nI i), .int (nI x), .int (nI y)] [] h (asI K) := by
  refine w_M_isLess_0 fM ?_
  rw [nI_ix, nI_clamp (by omega), o.2 x hx, nm_tb _ hu _ hy]
  exact ⟨vp_in_nI (by omega) (by decide), br_tb1 (fun e => by unfold le at hK; rw [e] at hK; exact hK) (fun e => by unfold le at hK; rw [e] at hK; exact hK)⟩
theorem S_MallOf (fM : is_M h) (hi : i < 5) (hn : mi h M_size i = nI n) (h6 : n ≤ 6) (hK : K (nI (2 ^ n - 1)) h) : Ev d g g m_M_allOf 0 [.ref A_M, .int (nI i)] [] h (asI K) := by
  refine w_M_allOf_0 fM ?_
  rw [nI_clamp (by omega), hn, nm_bit1 n (by omega), pk_sub (p2_pos n)]
  exact ⟨vp_in_nI (by omega) (by decide), hK⟩
theorem pop_step : ∀ s, s < 64 → ∀ k, k < 6 → pop (s % 2 ^ (k + 1)) = pop (s % 2 ^ k) + (if s.testBit k = true then 1 else 0) := by decide +kernel
theorem pop_le : ∀ s, s < 64 → pop s ≤ 6 := by decide +kernel
theorem S_Mbits (hs : s < 64) (hK : K (nI (pop s)) h) : Ev d g g m_M_bits 0 [.int (nI s)] [] h (asI K) := by
  refine w_M_bits_0 ?_
  have e0 : pop (s % 2 ^ 0) = 0 := by rw [Nat.pow_zero, Nat.mod_one]; rfl
  suffices hb : Ev d g g m_M_bits 4 [.int (nI s), .int (nI (pop (s % 2 ^ 0))), .int (nI 0)] [] h (asI K) by rw [e0] at hb; exact hb
  refine for_up (σ := Unit) (fun k _ => Ev d g g m_M_bits 4 [.int (nI s), .int (nI (pop (s % 2 ^ k))), .int (nI k)] [] h (asI K)) (fun _ _ => True) 6 (fun _ _ => ?_) (fun k _ hk _ ih => ?_) 0 () (Nat.zero_le _) trivial
  · refine w_M_bits_4 (br_le 6 6 rfl rfl (fun _ => ?_) (fun z => by omega))
    rw [show s % 2 ^ 6 = s from Nat.mod_eq_of_lt hs]
    exact hK
  · refine w_M_bits_4 (br_le 6 k rfl rfl (fun z => by omega) (fun _ => ?_))
    rw [nm_tb s hs k hk, nI_add, nI_add, ← pop_step s hs k hk]
    exact ih () trivial
theorem S_MisUpSet (fM : is_M h) (hi : i < 5) (o : MO h i n up) (w : wfP n up) (hs : s < 64) (hK : K (bI (isUp n up s)) h) : Ev d g g m_M_isUpSet 0 [.ref A_M, .int (nI i), .int (nI s)] [] h (asI K) := by
  have h6 := w.1.2
  refine w_M_isUpSet_0 fM ?_
  refine for_up (σ := Unit) (fun k _ => Ev d g g m_M_isUpSet 2 [.ref A_M, .int (nI i), .int (nI s), .int (nI k)] [] h (asI K)) (fun k _ => ∀ x, x < k → (!s.testBit x || (up x &&& (s ^^^ 63)) == 0) = true) n (fun _ hI => ?_) (fun k _ hk hI ih => ?_) 0 () (Nat.zero_le _) (fun x hx => by omega)
  · refine w_M_isUpSet_2 fM ?_
    rw [nI_clamp (by omega), o.1]
    refine ⟨vp_in_nI (by omega) (by decide), br_le n n rfl rfl (fun _ => ?_) (fun z => by omega)⟩
    have : isUp n up s = true := List.all_eq_true.mpr fun x hx => hI x (List.mem_range.mp hx)
    rw [this] at hK
    exact hK
  · refine w_M_isUpSet_2 fM ?_
    have e := nm_dif (up k) (w.u64 hk) s hs
    unfold m1 at e
    rw [nI_clamp (by omega), o.1, nm_tb s hs k (by omega), nI_ix, nI_clamp (by omega), o.2 k hk, e, nI_add]
    refine ⟨vp_in_nI (by omega) (by decide), br_le n k rfl rfl (fun z => by omega) (fun _ => br_tb1 (fun hb => ?_) (fun hb => ⟨vp_in_nI (by omega) (by decide), br_eq (up k &&& (s ^^^ 63)) 0 rfl rfl (fun z => ?_) (fun z => ?_) (by have := and64 (b := s ^^^ 63) (w.u64 hk); omega)⟩))⟩
    · refine ih () fun x hx => ?_
      by_cases hxk : x = k
      · subst hxk; rw [hb]; rfl
      · exact hI x (by omega)
    · refine ih () fun x hx => ?_
      by_cases hxk : x = k
      · subst hxk; rw [z]; simp
      · exact hI x (by omega)
    · have : isUp n up s = false := by
        cases e : isUp n up s
        · rfl
        · have h2 := List.all_eq_true.mp e k (List.mem_range.mpr hk)
          rw [hb] at h2
          simp at h2
          exact absurd h2 z
      rw [this] at hK
      exact hK
theorem S_MisElement {v : Int32} (fM : is_M h) (hn : mi h A_M 5 = nI n) (h6 : n ≤ 64) (hK : K (bI (ix v n).isSome) h) : Ev d g g m_M_isElement 0 [.ref A_M, .int v] [] h (asI K) := by
  refine w_M_isElement_0 fM ?_
  rw [hn]
  exact br_ix (by omega) (fun e => by rw [e] at hK; exact hK) (fun j e => by rw [e] at hK; exact hK)
end MLEAF
/-! implication -/
def impk (up : Nat → Nat) (a b : Nat) : Nat → Nat
  | 0 => 0
  | k + 1 => bif (up k &&& a &&& (b ^^^ 63)) == 0 then impk up a b k ||| 2 ^ k else impk up a b k
theorem impk_tb (up : Nat → Nat) (a b : Nat) : ∀ k y, (impk up a b k).testBit y = (decide (y < k) && ((up y &&& a &&& (b ^^^ 63)) == 0))
  | 0, y => by simp [impk]
  | k + 1, y => by
    unfold impk
    have ih := impk_tb up a b k y
    cases hb : ((up k &&& a &&& (b ^^^ 63)) == 0) with
    | true =>
      simp only [cond_true, Nat.testBit_or, ih, Nat.testBit_two_pow]
      rcases Nat.lt_trichotomy y k with h | h | h
      · simp [h, Nat.lt_succ_of_lt h, Nat.ne_of_gt h]
      · subst h; simp [hb]
      · simp [Nat.not_lt_of_gt h, Nat.ne_of_lt h, show ¬ y < k + 1 by omega]
    | false =>
      simp only [cond_false, ih]
      rcases Nat.lt_trichotomy y k with h | h | h
      · simp [h, Nat.lt_succ_of_lt h]
      · subst h; simp [hb]
      · simp [Nat.not_lt_of_gt h, show ¬ y < k + 1 by omega]
theorem impk_lt (up : Nat → Nat) (a b k : Nat) : impk up a b k < 2 ^ k := by
  apply Nat.lt_pow_two_of_testBit
  intro i hi
  rw [impk_tb]
  simp [Nat.not_lt_of_ge hi]
theorem imp_iff {n : Nat} {up : Nat → Nat} (w : wfP n up) {a b x : Nat} (hx : x < n) : (impk up a b n).testBit x = true ↔ ∀ y, y < n → le up x y = true → a.testBit y = true → b.testBit y = true := by
  rw [impk_tb]
  simp only [hx, decide_true, Bool.true_and, beq_iff_eq]
  rw [dif_zero (n := n) (Nat.lt_of_le_of_lt Nat.and_le_left (w.2.1 x hx)) w.1.2]
  constructor
  · intro h y hy h1 h2
    exact h y hy (by rw [Nat.testBit_and]; unfold le at h1; rw [h1, h2]; rfl)
  · intro h y hy h1
    rw [Nat.testBit_and, Bool.and_eq_true] at h1
    exact h y hy h1.1 h1.2
/-- the class's implication is the same set -/
theorem impC {n : Nat} {up : Nat → Nat} (w : wfP n up) (a b : Nat) : (2 ^ n - 1) &&& (dsk n up ((2 ^ n - 1) &&& a &&& (b ^^^ 63)) n ^^^ 63) = impk up a b n := by
  have h6 := w.1.2
  have hp := p2_le h6
  have hpp := p2_pos n
  refine set_ext (Nat.lt_of_le_of_lt Nat.and_le_left (by omega)) (Nat.lt_of_lt_of_le (impk_lt up a b n) hp) fun x hx => ?_
  rw [dif_tb hx, all_tb n (by omega) x hx]
  by_cases hxn : x < n
  · simp only [hxn, decide_true, Bool.true_and]
    cases h1 : (impk up a b n).testBit x
    · rw [Bool.not_eq_false']
      apply (dsk_tb n up _ n x).mpr
      have h2 : ¬ ∀ y, y < n → le up x y = true → a.testBit y = true → b.testBit y = true := fun z => by
        have := (imp_iff w hxn).mpr z
        rw [h1] at this
        cases this
      have h3 : ∃ y, y < n ∧ le up x y = true ∧ a.testBit y = true ∧ b.testBit y = false := Classical.byContradiction fun z => h2 fun y hy h4 h5 => by
        cases h6 : b.testBit y
        · exact absurd ⟨y, hy, h4, h5, h6⟩ z
        · rfl
      obtain ⟨y, hy, h4, h5, h6⟩ := h3
      refine ⟨y, hy, ?_, hxn, h4⟩
      rw [dif_tb (by omega), Nat.testBit_and, all_tb n (by omega) y (by omega), h5, h6]
      simp [hy]
    · rw [Bool.not_eq_true']
      cases h2 : (dsk n up ((2 ^ n - 1) &&& a &&& (b ^^^ 63)) n).testBit x
      · rfl
      · obtain ⟨y, hy, h3, -, h4⟩ := (dsk_tb n up _ n x).mp h2
        rw [dif_tb (by omega), Nat.testBit_and] at h3
        simp only [Bool.and_eq_true, Bool.not_eq_true'] at h3
        have := (imp_iff w hxn).mp h1 y hy h4 h3.1.2
        rw [h3.2] at this
        cases this
  · simp only [hxn, decide_false, Bool.false_and]
    rw [impk_tb]
    simp [hxn]
section IMP
variable {d g n i a : Nat} {up : Nat → Nat} {h : AH} {K : Int32 → AH → Prop} {s t : Nat}
theorem S_implication (f : is_P h a) (hn : mi h a 0 = nI n) (w : wfP n up) (hd : ∀ t, t < 2 ^ n → mi h (a + 2) t = nI (dsk n up t n)) (hs : s < 64) (ht : t < 64) (hK : K (nI (impk up s t n)) h) : Ev (d + 1) g g m_P_implication 0 [.ref a, .int (nI s), .int (nI t)] [] h (asI K) := by
  have h6 := w.1.2
  have hp := p2_le h6
  have hpp := p2_pos n
  refine w_P_implication_0 f (S_allPoints f hn h6 fun _ => ?_)
  have hc : (2 ^ n - 1) &&& s &&& (t ^^^ 63) < 2 ^ n := Nat.lt_of_le_of_lt Nat.and_le_left (Nat.lt_of_le_of_lt Nat.and_le_left (by omega))
  have e1 := nm_dif ((2 ^ n - 1) &&& s) (and64 (by omega)) t ht
  have e2 := nm_dif (2 ^ n - 1) (by omega) (dsk n up ((2 ^ n - 1) &&& s &&& (t ^^^ 63)) n) (Nat.lt_of_lt_of_le (dsk_lt n up _ n) hp)
  unfold m1 at e1 e2
  rw [nm_and (2 ^ n - 1) (by omega) s hs, e1, nI_clamp (by omega), hd _ hc, e2, impC w]
  exact ⟨vp_in_nI (by omega) (by decide), hK⟩
theorem S_MimpliedBits (fM : is_M h) (hi : i < 5) (o : MO h i n up) (w : wfP n up) (hs : s < 64) (ht : t < 64) (hK : K (nI (impk up s t n)) h) : Ev d g g m_M_impliedBits 0 [.ref A_M, .int (nI i), .int (nI s), .int (nI t)] [] h (asI K) := by
  have h6 := w.1.2
  refine w_M_impliedBits_0 fM ?_
  refine for_up (σ := Unit) (fun k _ => Ev d g g m_M_impliedBits 6 [.ref A_M, .int (nI i), .int (nI s), .int (nI t), .int (nI (impk up s t k)), .int (nI k)] [] h (asI K)) (fun _ _ => True) n (fun _ _ => ?_) (fun k _ hk _ ih => ?_) 0 () (Nat.zero_le _) trivial
  · refine w_M_impliedBits_6 fM ?_
    rw [nI_clamp (by omega), o.1]
    exact ⟨vp_in_nI (by omega) (by decide), br_le n n rfl rfl (fun _ => hK) (fun z => by omega)⟩
  · have i1 := ih () trivial
    refine w_M_impliedBits_6 fM ?_
    have e1 := nm_dif (up k &&& s) (and64 (w.u64 hk)) t ht
    unfold m1 at e1
    have hl : impk up s t k < 64 := Nat.lt_of_lt_of_le (impk_lt up s t k) (p2_le (by omega))
    rw [nI_clamp (by omega), o.1, nI_ix, nI_clamp (by omega), o.2 k hk, nm_and _ (w.u64 hk) s hs, e1, nI_add, nm_bit1 k (by omega), nm_or _ hl 0 (by decide), nm_or _ hl (2 ^ k) (Nat.lt_of_lt_of_le (Nat.pow_lt_pow_right (by decide) (by omega : k < 6)) (by decide)), Nat.or_zero]
    refine ⟨vp_in_nI (by omega) (by decide), br_le n k rfl rfl (fun z => by omega) (fun _ => ⟨vp_in_nI (by omega) (by decide), br_ne (up k &&& s &&& (t ^^^ 63)) 0 rfl rfl (fun z => ?_) (fun z => ?_) (by have := and64 (b := t ^^^ 63) (and64 (b := s) (w.u64 hk)); omega)⟩)⟩
    · unfold impk at i1
      rw [z] at i1
      exact i1
    · unfold impk at i1
      rw [show ((up k &&& s &&& (t ^^^ 63)) == 0) = false by simpa using z] at i1
      exact i1
end IMP

/-! primes: the up-sets of one point -/
section PRM
variable {n : Nat} {up : Nat → Nat}
theorem has_min (w : wfP n up) {s : Nat} : ∀ k x, x < n → s.testBit x = true → 7 ≤ pop (up x) + k → ∃ m, m < n ∧ s.testBit m = true ∧ ∀ y, y < n → s.testBit y = true → le up y m = true → y = m
  | 0, x, hx, _, h => by
    have := pop_le6 n w.1.2 _ (w.2.1 x hx)
    have := w.1.2
    omega
  | k + 1, x, hx, hs, h => by
    apply Classical.byContradiction
    intro hno
    have h1 : ¬ ∀ y, y < n → s.testBit y = true → le up y x = true → y = x := fun z => hno ⟨x, hx, hs, z⟩
    apply h1
    intro y hy hsy hle
    apply Classical.byContradiction
    intro hne
    have hp : pop (up x) < pop (up y) := by
      refine pop_and _ (w.u64 hx) _ (w.u64 hy) (set_ext (and64 (w.u64 hx)) (w.u64 hx) fun z _ => ?_) fun e => ?_
      · rw [Nat.testBit_and]
        cases hz : (up x).testBit z with
        | false => rfl
        | true =>
          have lz := tb_lt (w.2.1 x hx) hz
          have := w.2.2.2.1 y x z hy hx lz hle hz
          unfold le at this
          rw [this]
          rfl
      · have := w.2.2.1 y hy
        unfold le at this
        rw [← e] at this
        exact hne (w.2.2.2.2 y x hy hx hle this)
    exact hno (has_min w k y hy hsy (by omega))
theorem el_zero (w : wfP n up) : (elems n up).getD 0 0 = 0 ∧ 0 < (elems n up).length := by
  have h6 := w.1.2
  have m0 : 0 ∈ elems n up := (mem_elems h6).mpr ⟨p2_pos n, (isUp_iff w 0).mpr fun x y _ _ z => by rw [Nat.zero_testBit] at z; cases z⟩
  have l0 := idx_lt m0
  have lp : 0 < (elems n up).length := by omega
  refine ⟨?_, lp⟩
  apply Classical.byContradiction
  intro hne
  have := el_lt h6 m0 lp (Nat.zero_and _) fun e => hne e.symm
  omega
theorem up_mem (w : wfP n up) {x : Nat} (hx : x < n) : up x ∈ elems n up := (mem_elems w.1.2).mpr ⟨w.2.1 x hx, (isUp_iff w _).mpr fun a b ha hb hxa hab => w.2.2.2.1 x a b hx ha hb hxa hab⟩
theorem not_zero {a n : Nat} (ha : a < 2 ^ n) (h : a ≠ 0) : ∃ x, x < n ∧ a.testBit x = true := by
  obtain ⟨x, hx⟩ := Nat.exists_testBit_of_ne_zero h
  exact ⟨x, tb_lt ha hx, hx⟩
theorem prime_iff (w : wfP n up) {k : Nat} (hk : k < (elems n up).length) : (∃ x, x < n ∧ up x = (elems n up).getD k 0) ↔ (k ≠ 0 ∧ ∀ i j, i < (elems n up).length → j < (elems n up).length → i ≠ k → j ≠ k → (elems n up).getD i 0 ||| (elems n up).getD j 0 ≠ (elems n up).getD k 0) := by
  have h6 := w.1.2
  have mk := (mem_elems h6).mp (getD_mem hk)
  have uk := (isUp_iff w _).mp mk.2
  constructor
  · rintro ⟨x, hx, e⟩
    have hxx : ((elems n up).getD k 0).testBit x = true := by rw [← e]; exact w.2.2.1 x hx
    refine ⟨fun z => ?_, fun i j hi hj hik hjk he => ?_⟩
    · subst z
      rw [(el_zero w).1, Nat.zero_testBit] at hxx
      cases hxx
    · have part : ∀ i, i < (elems n up).length → (∀ y, ((elems n up).getD i 0).testBit y = true → ((elems n up).getD k 0).testBit y = true) → ((elems n up).getD i 0).testBit x = true → i = k := fun i hi hsub hix => by
        have mi' := (mem_elems h6).mp (getD_mem hi)
        have ui := (isUp_iff w _).mp mi'.2
        refine el_inj h6 hi hk (set_ext (el64 h6 (getD_mem hi)) (el64 h6 (getD_mem hk)) fun y _ => ?_)
        cases hy : ((elems n up).getD i 0).testBit y with
        | true => exact (hsub y hy).symm
        | false =>
          cases hky : ((elems n up).getD k 0).testBit y with
          | false => rfl
          | true =>
            rw [← e] at hky
            have := ui x y hx (tb_lt (w.2.1 x hx) hky) hix hky
            rw [hy] at this
            cases this
      have hor : ((elems n up).getD i 0 ||| (elems n up).getD j 0).testBit x = true := by rw [he]; exact hxx
      rw [Nat.testBit_or, Bool.or_eq_true] at hor
      rcases hor with z | z
      · exact hik (part i hi (fun y hy => by rw [← he, Nat.testBit_or, hy]; rfl) z)
      · exact hjk (part j hj (fun y hy => by rw [← he, Nat.testBit_or, hy, Bool.or_true]) z)
  · rintro ⟨h0, hall⟩
    apply Classical.byContradiction
    intro hno
    have hne : (elems n up).getD k 0 ≠ 0 := fun z => h0 (el_inj h6 hk (el_zero w).2 (z.trans (el_zero w).1.symm))
    obtain ⟨x0, hx0, hb0⟩ := not_zero mk.1 hne
    obtain ⟨x, hx, hb, hmin⟩ := has_min w 7 x0 hx0 hb0 (by omega)
    have hx6 : x < 6 := by omega
    have s64 := el64 h6 (getD_mem hk)
    have tx : ∀ y, y < 6 → (2 ^ x ^^^ 63).testBit y = !decide (x = y) := fun y hy => by
      rw [Nat.testBit_xor, Nat.testBit_two_pow, tb63 y hy, Bool.xor_true]
    have mb : (elems n up).getD k 0 &&& (2 ^ x ^^^ 63) ∈ elems n up := by
      refine (mem_elems h6).mpr ⟨Nat.lt_of_le_of_lt Nat.and_le_left mk.1, (isUp_iff w _).mpr fun a b ha hb' hxa hab => ?_⟩
      rw [Nat.testBit_and, Bool.and_eq_true] at hxa ⊢
      have hk2 := uk a b ha hb' hxa.1 hab
      refine ⟨hk2, ?_⟩
      have h2 := hxa.2
      rw [tx a (by omega)] at h2
      rw [tx b (by omega)]
      by_cases e : x = b
      · subst e
        have := hmin a ha hxa.1 hab
        subst this
        simp at h2
      · simp [e]
    have ma := up_mem w hx
    refine hall _ _ (idx_lt ma) (idx_lt mb) (fun z => ?_) (fun z => ?_) ?_
    · have := getD_idx ma
      rw [z] at this
      exact hno ⟨x, hx, this.symm⟩
    · have := getD_idx mb
      rw [z] at this
      have h2 : ((elems n up).getD k 0 &&& (2 ^ x ^^^ 63)).testBit x = true := by rw [← this]; exact hb
      rw [Nat.testBit_and, tx x hx6] at h2
      simp at h2
    · rw [getD_idx ma, getD_idx mb]
      refine set_ext (or64 (w.u64 hx) (and64 s64)) s64 fun y hy => ?_
      rw [Nat.testBit_or, Nat.testBit_and, tx y hy]
      cases hky : ((elems n up).getD k 0).testBit y with
      | true =>
        by_cases e : x = y
        · subst e
          have := w.2.2.1 x hx
          unfold le at this
          rw [this]
          rfl
        · simp [e]
      | false =>
        cases hxy : (up x).testBit y with
        | false => rfl
        | true =>
          have := uk x y hx (tb_lt (w.2.1 x hx) hxy) hb hxy
          rw [hky] at this
          cases this
end PRM
def prm (p : PT) (k : Nat) : Bool := (List.range p.1).any fun x => p.2.1 x == (pE p).getD k 0
def rPrime (S : St) (v a : Int32) : Int32 := rPo S v fun p => r1 a (pE p).length fun k => bI (prm p k)
theorem any_iff {n : Nat} {f : Nat → Nat} {m : Nat} : ((List.range n).any fun x => f x == m) = true ↔ ∃ x, x < n ∧ f x = m := by
  rw [List.any_eq_true]
  constructor
  · rintro ⟨x, hx, e⟩
    exact ⟨x, List.mem_range.mp hx, by simpa using e⟩
  · rintro ⟨x, hx, e⟩
    exact ⟨x, List.mem_range.mpr hx, by simpa using e⟩
section PRMOP
variable {d g : Nat} {h : AH} {S : St} {K : Int32 → AH → Prop}
theorem S_hasLeastPoint {aa n m : Nat} {up : Nat → Nat} (f : is_P h aa) (o : PO h aa n up) (w : wfP n up) (hm : m < 64) (hK : K (bI ((List.range n).any fun x => up x == m)) h) : Ev d g g m_P_hasLeastPoint 0 [.ref aa, .int (nI m)] [] h (asI K) := by
  have h6 := w.1.2
  refine w_P_hasLeastPoint_0 f ?_
  refine for_up (σ := Unit) (fun k _ => Ev d g g m_P_hasLeastPoint 2 [.ref aa, .int (nI m), .int (nI k)] [] h (asI K)) (fun k _ => ∀ i, i < k → up i ≠ m) n (fun _ hi => ?_) (fun k _ hk hi ih => ?_) 0 () (Nat.zero_le _) (fun i z => by omega)
  · have e : ((List.range n).any fun x => up x == m) = false := by
      cases e : ((List.range n).any fun x => up x == m) with
      | false => rfl
      | true =>
        obtain ⟨x, hx, e2⟩ := any_iff.mp e
        exact absurd e2 (hi x hx)
    rw [e] at hK
    exact w_P_hasLeastPoint_2 f (br_le n n o.1 rfl (fun _ => hK) (fun z => by omega))
  · refine w_P_hasLeastPoint_2 f (br_le n k o.1 rfl (fun z => by omega) fun _ => ?_)
    have := w.u64 hk
    rw [nI_clamp (by omega), o.2 k hk, nI_add]
    refine ⟨vp_in_nI (by omega) (by decide), br_ne (up k) m rfl rfl (fun z => ?_) (fun z => ih () fun i hik => ?_)⟩
    · rw [any_iff.mpr ⟨k, hk, z⟩] at hK
      exact hK
    · by_cases e : i = k
      · subst e; exact z
      · exact hi i (by omega)
theorem C_isPrime {v a : Int32} (W : WS S) (I : InvC h S) (hK : K (rPrime S v a) h) : Ev (d + 1) g g m_C_isPrime 0 [.ref A_x, .int v, .int a] [] h (asI K) := by
  unfold rPrime at hK
  refine w_C_isPrime_0 I.1 (S_posetAt I.1 (fun e => by rw [rPo_none e] at hK; exact hK) (fun j hj _ fp e => ⟨fp, ?_⟩))
  rw [rPo_some e] at hK
  have w := (W.1 j hj).1
  have h6 := w.1.2
  have hl : (pE (sP S j)).length ≤ 64 := elems_len (up := (sP S j).2.1) h6
  have P := I.2.1 j hj
  have el := P.2.2.1
  refine S_hasElement fp el.1 hl fun _ => br_nb (fun e1 => ?_) (fun e1 => ?_)
  · rw [r1_n e1] at hK
    exact hK
  · obtain ⟨x, hx⟩ := Option.isSome_iff_exists.mp e1
    rw [r1_s hx] at hK
    obtain ⟨lx, rfl⟩ := ix_some hx
    have lx : x < (pE (sP S j)).length := lx
    have lx2 : x < 64 := by omega
    rw [nI_clamp (by omega), el.2.1 x lx]
    refine ⟨vp_in_nI lx2 (by decide), S_hasLeastPoint fp P.1 w (el64 h6 (getD_mem lx)) fun _ => br_b (fun z => ?_) (fun z => ?_)⟩
    · have hp : prm (sP S j) x = false := z
      rw [hp] at hK
      exact hK
    · have hp : prm (sP S j) x = true := z
      rw [hp] at hK
      exact hK
theorem M_isPrime {v a : Int32} (W : WS S) (I : InvM h S) (hK : ∀ h1, doneM S h h1 → K (rPrime S v a) h1) : Ev (d + 3) g g m_M_isPrime 0 [.ref A_M, .int v, .int a] [] h (asI K) := by
  refine w_M_isPrime_0 I.1 (S_fnd W I (fun e => ?_) (fun j hj hv e h1 dn el => ?_))
  · have hk := hK h (doneM.rf I)
    unfold rPrime at hk
    rw [rPo_none e] at hk
    exact hk
  have hk := hK h1 dn
  unfold rPrime at hk
  rw [rPo_some e] at hk
  have w := (W.1 j hj).1
  have h6 := w.1.2
  have hl : (pE (sP S j)).length ≤ 64 := elems_len (up := (sP S j).2.1) h6
  refine S_MisElement dn.1.1 el.1 hl fun _ => br_nb (fun e1 => ?_) (fun e1 => ?_)
  · rw [r1_n e1] at hk
    exact hk
  obtain ⟨x, hx⟩ := Option.isSome_iff_exists.mp e1
  rw [r1_s hx] at hk
  obtain ⟨lx, rfl⟩ := ix_some hx
  have lx : x < (pE (sP S j)).length := lx
  have cx := el64 h6 (getD_mem lx)
  have pi : prm (sP S j) x = true ↔ (x ≠ 0 ∧ ∀ i j', i < (pE (sP S j)).length → j' < (pE (sP S j)).length → i ≠ x → j' ≠ x → (pE (sP S j)).getD i 0 ||| (pE (sP S j)).getD j' 0 ≠ (pE (sP S j)).getD x 0) := any_iff.trans (prime_iff w lx)
  refine for_up (σ := Unit) (fun k _ => Ev (d + 3) g g m_M_isPrime 20 [.ref A_M, unk, .int (nI x), .int (nI k)] [] h1 (asI K)) (fun k _ => ∀ i j', i < k → j' < (pE (sP S j)).length → i ≠ x → j' ≠ x → (pE (sP S j)).getD i 0 ||| (pE (sP S j)).getD j' 0 ≠ (pE (sP S j)).getD x 0) (pE (sP S j)).length (fun _ hi => ?_) (fun k _ hkk hi ih => ?_) 0 () (Nat.zero_le _) (fun i _ z => by omega)
  · refine w_M_isPrime_20 dn.1.1 (br_le _ _ el.1 rfl (fun _ => br_ne x 0 rfl rfl (fun z => ?_) (fun z => ?_)) (fun z => by omega))
    · have hp : prm (sP S j) x = false := by
        cases hp : prm (sP S j) x with
        | false => rfl
        | true => exact absurd z (pi.mp hp).1
      rw [hp] at hk
      exact hk
    · rw [pi.mpr ⟨z, hi⟩] at hk
      exact hk
  · refine w_M_isPrime_20 dn.1.1 (br_le _ k el.1 rfl (fun z => by omega) fun _ => ?_)
    refine for_up (σ := Unit) (fun k2 _ => Ev (d + 3) g g m_M_isPrime 31 [.ref A_M, unk, .int (nI x), .int (nI k), .int (nI k2)] [] h1 (asI K)) (fun k2 _ => ∀ j', j' < k2 → k ≠ x → j' ≠ x → (pE (sP S j)).getD k 0 ||| (pE (sP S j)).getD j' 0 ≠ (pE (sP S j)).getD x 0) (pE (sP S j)).length (fun _ hi2 => ?_) (fun k2 _ hk2 hi2 ih2 => ?_) 0 () (Nat.zero_le _) (fun i z => by omega)
    · refine w_M_isPrime_31 dn.1.1 (br_le _ _ el.1 rfl (fun _ => ?_) (fun z => by omega))
      rw [nI_add]
      refine ih () fun i j' hik hj' hix hjx => ?_
      by_cases e : i = k
      · subst e; exact hi2 j' hj' hix hjx
      · exact hi i j' (by omega) hj' hix hjx
    · refine w_M_isPrime_31 dn.1.1 (br_le _ k2 el.1 rfl (fun z => by omega) fun _ => ?_)
      rw [nI_add]
      have nxt : (k ≠ x → k2 ≠ x → (pE (sP S j)).getD k 0 ||| (pE (sP S j)).getD k2 0 ≠ (pE (sP S j)).getD x 0) → Ev (d + 3) g g m_M_isPrime 31 [.ref A_M, unk, .int (nI x), .int (nI k), .int (nI (k2 + 1))] [] h1 (asI K) := fun z => ih2 () fun j' hj' a1 a2 => by
        by_cases e : j' = k2
        · subst e; exact z a1 a2
        · exact hi2 j' (by omega) a1 a2
      have ck := el64 h6 (getD_mem hkk)
      have ck2 := el64 h6 (getD_mem hk2)
      refine br_eq k x rfl rfl (fun z => nxt fun q => absurd z q) (fun z => br_eq k2 x rfl rfl (fun z2 => nxt fun _ q => absurd z2 q) (fun z2 => ?_))
      rw [nI_clamp (by omega), nI_clamp (by omega), nI_clamp (by omega), el.2.1 k hkk, el.2.1 x lx, el.2.1 k2 hk2, nm_or ((pE (sP S j)).getD k 0) ck ((pE (sP S j)).getD k2 0) ck2]
      refine ⟨vp_in_nI (by omega) (by decide), vp_in_nI (by omega) (by decide), vp_in_nI (by omega) (by decide), br_ne ((pE (sP S j)).getD k 0 ||| (pE (sP S j)).getD k2 0) ((pE (sP S j)).getD x 0) rfl rfl (fun q => ?_) (fun q => nxt fun _ _ => q) (Nat.lt_trans (or64 ck ck2) (by decide)) (Nat.lt_trans cx (by decide))⟩
      have hp : prm (sP S j) x = false := by
        cases hp : prm (sP S j) x with
        | false => rfl
        | true => exact absurd q ((pi.mp hp).2 k k2 hkk hk2 z z2)
      rw [hp] at hk
      exact hk
end PRMOP

/-! filters: the order of the elements, classes, primes -/
theorem pre_pop : ∀ n, n < 7 → (pre n (n + 1) 0).Pairwise (fun a b => pop a ≤ pop b) := by decide +kernel
theorem pre_ne : ∀ n, n < 7 → (pre n (n + 1) 0).Pairwise (fun a b => a ≠ b) := by decide +kernel
section ORD
variable {n : Nat} {up : Nat → Nat}
theorem getD_get {L : List Nat} {i : Nat} (h : i < L.length) : L.getD i 0 = L[i] := by
  rw [List.getD_eq_getElem?_getD, List.getElem?_eq_getElem h]
  rfl
theorem el_pop (h6 : n ≤ 6) {i j : Nat} (hij : i < j) (hj : j < (elems n up).length) : pop ((elems n up).getD i 0) ≤ pop ((elems n up).getD j 0) := by
  have h := (pre_pop n (by omega)).filter (isUp n up)
  rw [getD_get (Nat.lt_trans hij hj), getD_get hj]
  exact List.pairwise_iff_getElem.mp h i j (Nat.lt_trans hij hj) hj hij
theorem el_inj (h6 : n ≤ 6) {i j : Nat} (hi : i < (elems n up).length) (hj : j < (elems n up).length) (e : (elems n up).getD i 0 = (elems n up).getD j 0) : i = j := by
  have h := (pre_ne n (by omega)).filter (isUp n up)
  rw [getD_get hi, getD_get hj] at e
  rcases Nat.lt_trichotomy i j with z | z | z
  · exact absurd e (List.pairwise_iff_getElem.mp h i j hi hj z)
  · exact z
  · exact absurd e.symm (List.pairwise_iff_getElem.mp h j i hj hi z)
/-- a proper part of an element stands ahead of it -/
theorem el_lt (h6 : n ≤ 6) {t i : Nat} (ht : t ∈ elems n up) (hi : i < (elems n up).length) (hs : t &&& (elems n up).getD i 0 = t) (hne : t ≠ (elems n up).getD i 0) : (elems n up).idxOf t < i := by
  have hp := pop_and t (el64 h6 ht) _ (el64 h6 (getD_mem hi)) hs hne
  have hx := idx_lt ht
  have hg := getD_idx ht
  rcases Nat.lt_trichotomy ((elems n up).idxOf t) i with z | z | z
  · exact z
  · rw [z] at hg; exact absurd hg.symm hne
  · have := el_pop h6 z hx
    rw [hg] at this
    omega
theorem a31 {a b : Nat} (h : a < 64) : a &&& b < 2147483648 := by have := and64 (b := b) h; omega
theorem and_self_r (a b : Nat) : a &&& b &&& b = a &&& b := by rw [Nat.and_assoc, Nat.and_self]
/-- the first element with the same part in m is that part itself -/
theorem first_part (h6 : n ≤ 6) {t m e : Nat} (ht : t ∈ elems n up) (htm : t &&& m = t) (he : e < (elems n up).length) (hlt : e < (elems n up).idxOf t) : (elems n up).getD e 0 &&& m ≠ t := by
  intro z
  have h1 : t &&& (elems n up).getD e 0 = t := by
    rw [← z, Nat.and_comm ((elems n up).getD e 0) m, Nat.and_assoc, Nat.and_self]
  have h2 : t ≠ (elems n up).getD e 0 := fun q => by
    have := el_inj h6 he (idx_lt ht) (by rw [getD_idx ht]; exact q.symm)
    omega
  have := el_lt h6 ht he h1 h2
  omega
end ORD
def ck (P : Nat → Bool) : Nat → Nat
  | 0 => 0
  | k + 1 => ck P k + (bif P k then 1 else 0)
theorem ck_le (P : Nat → Bool) : ∀ k, ck P k ≤ k
  | 0 => Nat.le_refl _
  | k + 1 => by unfold ck; have := ck_le P k; cases P k <;> simp <;> omega
theorem ck_congr {P Q : Nat → Bool} : ∀ k, (∀ i, i < k → P i = Q i) → ck P k = ck Q k
  | 0, _ => rfl
  | k + 1, h => by unfold ck; rw [ck_congr k fun i hi => h i (by omega), h k (by omega)]
section FILM
variable {d g : Nat} {h : AH} {S : St} {K : Int32 → AH → Prop}
theorem M_filterClass {v a b : Int32} (W : WS S) (I : InvM h S) (hK : ∀ h1, doneM S h h1 → K (rOp S 0 v a b) h1) : Ev (d + 4) g g m_M_filterClass 0 [.ref A_M, .int v, .int a, .int b] [] h (asI K) := by
  refine w_M_filterClass_0 I.1 ((S_are W I (fun h1 dn hb => by have := hK h1 dn; rw [rOp_bad hb] at this; exact this) (fun j x y hj hv e hx hy h1 dn el => ?_)).mI fun x h1 _ k e => (k e).symm)
  have hk := hK h1 dn
  unfold rOp at hk
  rw [rPo_some e, r2_s hx hy] at hk
  have w := (W.1 j hj).1
  have h6 := w.1.2
  have hl : (pE (sP S j)).length ≤ 64 := elems_len (up := (sP S j).2.1) h6
  obtain ⟨lx, rfl⟩ := ix_some hx
  obtain ⟨ly, rfl⟩ := ix_some hy
  have lx : x < (pE (sP S j)).length := lx
  have ly : y < (pE (sP S j)).length := ly
  have mo := opS_mem w (op := 0) (getD_mem lx) (getD_mem ly)
  have mo : (pE (sP S j)).getD x 0 &&& (pE (sP S j)).getD y 0 ∈ pE (sP S j) := mo
  have hk : K (nI ((pE (sP S j)).idxOf ((pE (sP S j)).getD x 0 &&& (pE (sP S j)).getD y 0))) h1 := hk
  have l0 : (pE (sP S j)).idxOf ((pE (sP S j)).getD x 0 &&& (pE (sP S j)).getD y 0) < (pE (sP S j)).length := idx_lt mo
  have cx := el64 h6 (getD_mem lx)
  have cy := el64 h6 (getD_mem ly)
  have tm : (pE (sP S j)).getD x 0 &&& (pE (sP S j)).getD y 0 &&& (pE (sP S j)).getD x 0 = (pE (sP S j)).getD x 0 &&& (pE (sP S j)).getD y 0 := by rw [Nat.and_comm ((pE (sP S j)).getD x 0), and_self_r]
  refine for_up (σ := Unit) (fun k _ => Ev (d + 4) g g m_M_filterClass 15 [.ref A_M, unk, .int (nI x), .int (nI y), .int (nI k)] [] h1 (asI K)) (fun _ _ => True) ((pE (sP S j)).idxOf ((pE (sP S j)).getD x 0 &&& (pE (sP S j)).getD y 0)) (fun _ _ => ?_) (fun k _ hkk _ ih => ?_) 0 () (Nat.zero_le _) trivial
  · refine w_M_filterClass_15 dn.1.1 ?_
    rw [nI_clamp (by omega), nI_clamp (by omega), nI_clamp (by omega), el.2.1 _ l0, el.2.1 x lx, el.2.1 y ly, getD_idx mo, nm_and _ (el64 h6 mo) _ cx, nm_and _ cy _ cx, tm]
    refine ⟨vp_in_nI (by omega) (by decide), vp_in_nI (by omega) (by decide), vp_in_nI (by omega) (by decide), vp_in_nI (by omega) (by decide), fun _ => hk, fun z => absurd ?_ z⟩
    rw [Nat.and_comm]
  · refine w_M_filterClass_15 dn.1.1 ?_
    have lk : k < (pE (sP S j)).length := by omega
    have ck := el64 h6 (getD_mem lk)
    rw [nI_clamp (by omega), nI_clamp (by omega), nI_clamp (by omega), el.2.1 k lk, el.2.1 x lx, el.2.1 y ly, nm_and ((pE (sP S j)).getD k 0) ck ((pE (sP S j)).getD x 0) cx, nm_and ((pE (sP S j)).getD y 0) cy ((pE (sP S j)).getD x 0) cx, nI_add]
    refine ⟨vp_in_nI (by omega) (by decide), vp_in_nI (by omega) (by decide), vp_in_nI (by omega) (by decide), vp_in_nI (by omega) (by decide), br_eq ((pE (sP S j)).getD k 0 &&& (pE (sP S j)).getD x 0) ((pE (sP S j)).getD y 0 &&& (pE (sP S j)).getD x 0) rfl rfl (fun z => ?_) (fun _ => ih () trivial) (a31 ck) (a31 cy)⟩
    exact absurd (z.trans (Nat.and_comm _ _)) (first_part h6 mo tm lk hkk)
def rQuot (S : St) (v a : Int32) : Int32 := rPo S v fun p => r1 a (pE p).length fun k => nI (ck (fun i => ((pE p).getD i 0 &&& ((pE p).getD k 0 ^^^ 63)) == 0) (pE p).length)
theorem S_elementsWithin {aa n m : Nat} {up val : Nat → Nat} (f : is_P h aa) (P : PC h aa n up val) (h6 : n ≤ 6) (hm : m < 64) (hK : K (nI (ck (fun i => ((elems n up).getD i 0 &&& (m ^^^ 63)) == 0) (elems n up).length)) h) : Ev d g g m_P_elementsWithin 0 [.ref aa, .int (nI m)] [] h (asI K) := by
  have hl := elems_len (up := up) h6
  have el := P.2.2.1
  refine w_P_elementsWithin_0 f ?_
  refine for_up (σ := Unit) (fun k _ => Ev d g g m_P_elementsWithin 4 [.ref aa, .int (nI m), .int (nI (ck (fun i => ((elems n up).getD i 0 &&& (m ^^^ 63)) == 0) k)), .int (nI k)] [] h (asI K)) (fun _ _ => True) (elems n up).length (fun _ _ => ?_) (fun k _ hk _ ih => ?_) 0 () (Nat.zero_le _) trivial
  · exact w_P_elementsWithin_4 f (br_le _ _ el.1 rfl (fun _ => hK) (fun z => by omega))
  · have i1 := ih () trivial
    have c := el64 h6 (getD_mem hk)
    have e1 := nm_dif _ c m hm
    unfold m1 at e1
    refine w_P_elementsWithin_4 f (br_le _ k el.1 rfl (fun z => by omega) fun _ => ?_)
    rw [nI_clamp (by omega), el.2.1 k hk, e1, nI_add, nI_add]
    unfold ck at i1
    refine ⟨vp_in_nI (by omega) (by decide), br_ne ((elems n up).getD k 0 &&& (m ^^^ 63)) 0 rfl rfl (fun z => ?_) (fun z => ?_) (by have := and64 (b := m ^^^ 63) c; omega)⟩
    · rw [z] at i1
      exact i1
    · rw [show (((elems n up).getD k 0 &&& (m ^^^ 63)) == 0) = false by simpa using z] at i1
      exact i1
theorem C_quotientSize {v a : Int32} (W : WS S) (I : InvC h S) (hK : K (rQuot S v a) h) : Ev (d + 1) g g m_C_quotientSize 0 [.ref A_x, .int v, .int a] [] h (asI K) := by
  unfold rQuot at hK
  refine w_C_quotientSize_0 I.1 (S_posetAt I.1 (fun e => by rw [rPo_none e] at hK; exact hK) (fun j hj _ fp e => ⟨fp, ?_⟩))
  rw [rPo_some e] at hK
  have h6 := (W.1 j hj).1.1.2
  have hl : (pE (sP S j)).length ≤ 64 := elems_len (up := (sP S j).2.1) h6
  have P := I.2.1 j hj
  have el := P.2.2.1
  refine S_hasElement fp el.1 hl fun _ => br_nb (fun e1 => ?_) (fun e1 => ?_)
  · rw [r1_n e1] at hK
    exact hK
  · obtain ⟨x, hx⟩ := Option.isSome_iff_exists.mp e1
    rw [r1_s hx] at hK
    obtain ⟨lx, rfl⟩ := ix_some hx
    have lx : x < (pE (sP S j)).length := lx
    have lx2 : x < 64 := by omega
    rw [nI_clamp (by omega), el.2.1 x lx]
    exact ⟨vp_in_nI lx2 (by decide), S_elementsWithin fp P h6 (el64 h6 (getD_mem lx)) fun _ => hK⟩
theorem M_quotientSize {v a : Int32} (W : WS S) (I : InvM h S) (hK : ∀ h1, doneM S h h1 → K (rQuot S v a) h1) : Ev (d + 3) g g m_M_quotientSize 0 [.ref A_M, .int v, .int a] [] h (asI K) := by
  refine w_M_quotientSize_0 I.1 (S_fnd W I (fun e => ?_) (fun j hj hv e h1 dn el => ?_))
  · have hk := hK h (doneM.rf I)
    unfold rQuot at hk
    rw [rPo_none e] at hk
    exact hk
  have hk := hK h1 dn
  unfold rQuot at hk
  rw [rPo_some e] at hk
  have w := (W.1 j hj).1
  have h6 := w.1.2
  have hl : (pE (sP S j)).length ≤ 64 := elems_len (up := (sP S j).2.1) h6
  refine S_MisElement dn.1.1 el.1 hl fun _ => br_nb (fun e1 => ?_) (fun e1 => ?_)
  · rw [r1_n e1] at hk
    exact hk
  obtain ⟨x, hx⟩ := Option.isSome_iff_exists.mp e1
  rw [r1_s hx] at hk
  obtain ⟨lx, rfl⟩ := ix_some hx
  have lx : x < (pE (sP S j)).length := lx
  have cx := el64 h6 (getD_mem lx)
  -- an element is the first of its class if and only if it lies in m
  have key : ∀ e, e < (pE (sP S j)).length → ((∀ k, k < e → (pE (sP S j)).getD k 0 &&& (pE (sP S j)).getD x 0 ≠ (pE (sP S j)).getD e 0 &&& (pE (sP S j)).getD x 0) ↔ ((pE (sP S j)).getD e 0 &&& ((pE (sP S j)).getD x 0 ^^^ 63)) = 0) := by
    intro e he
    have ce := el64 h6 (getD_mem he)
    have mo := opS_mem w (op := 0) (getD_mem he) (getD_mem lx)
    have mo : (pE (sP S j)).getD e 0 &&& (pE (sP S j)).getD x 0 ∈ pE (sP S j) := mo
    have sub : ((pE (sP S j)).getD e 0 &&& ((pE (sP S j)).getD x 0 ^^^ 63)) = 0 ↔ (pE (sP S j)).getD e 0 &&& (pE (sP S j)).getD x 0 = (pE (sP S j)).getD e 0 := by
      have hh : ∀ a, a < 64 → ∀ b, b < 64 → ((a &&& (b ^^^ 63)) = 0 ↔ a &&& b = a) := by decide +kernel
      exact hh _ ce _ cx
    rw [sub]
    constructor
    · intro hall
      apply Classical.byContradiction
      intro hne
      have hlt := el_lt h6 mo he (by rw [Nat.and_comm ((pE (sP S j)).getD e 0), Nat.and_assoc, Nat.and_self]) hne
      refine hall _ hlt ?_
      rw [getD_idx mo, and_self_r]
    · intro heq k hk hke
      rw [heq] at hke
      have lk : k < (pE (sP S j)).length := by omega
      have h1 : (pE (sP S j)).getD e 0 &&& (pE (sP S j)).getD k 0 = (pE (sP S j)).getD e 0 := by rw [← hke, Nat.and_comm ((pE (sP S j)).getD k 0), Nat.and_assoc, Nat.and_self]
      have h2 : (pE (sP S j)).getD e 0 ≠ (pE (sP S j)).getD k 0 := fun q => by have := el_inj h6 he lk q; omega
      have h3 : (pE (sP S j)).idxOf ((pE (sP S j)).getD e 0) < k := el_lt h6 (getD_mem he) lk h1 h2
      have h4 : (pE (sP S j)).idxOf ((pE (sP S j)).getD e 0) = e := el_inj h6 (idx_lt (getD_mem he)) he (getD_idx (getD_mem he))
      omega
  refine for_up (σ := Unit) (fun k _ => Ev (d + 3) g g m_M_quotientSize 23 [.ref A_M, unk, .int (nI x), .int (nI (ck (fun i => ((pE (sP S j)).getD i 0 &&& ((pE (sP S j)).getD x 0 ^^^ 63)) == 0) k)), .int (nI k)] [] h1 (asI K)) (fun _ _ => True) (pE (sP S j)).length (fun _ _ => ?_) (fun e _ he _ ih => ?_) 0 () (Nat.zero_le _) trivial
  · exact w_M_quotientSize_23 dn.1.1 (br_le _ _ el.1 rfl (fun _ => hk) (fun z => by omega))
  · have i1 := ih () trivial
    have ce := el64 h6 (getD_mem he)
    refine w_M_quotientSize_23 dn.1.1 (br_le _ e el.1 rfl (fun z => by omega) fun _ => ?_)
    refine for_up (σ := Bool) (fun k b => Ev (d + 3) g g m_M_quotientSize 38 [.ref A_M, unk, .int (nI x), .int (nI (ck (fun i => ((pE (sP S j)).getD i 0 &&& ((pE (sP S j)).getD x 0 ^^^ 63)) == 0) e)), .int (nI e), .int (bI b), .int (nI k)] [] h1 (asI K)) (fun k b => b = true ↔ ∀ i, i < k → (pE (sP S j)).getD i 0 &&& (pE (sP S j)).getD x 0 ≠ (pE (sP S j)).getD e 0 &&& (pE (sP S j)).getD x 0) e (fun b hb => ?_) (fun k b hke hb ih2 => ?_) 0 true (Nat.zero_le _) ⟨fun _ i hi => by omega, fun _ => rfl⟩
    · refine w_M_quotientSize_38 dn.1.1 (br_le e e rfl rfl (fun _ => ?_) (fun z => by omega))
      rw [nI_add, nI_add, nI_add]
      unfold ck at i1
      rw [key e he] at hb
      refine br_b (fun z => ?_) (fun z => ?_)
      · have hz : ¬ ((pE (sP S j)).getD e 0 &&& ((pE (sP S j)).getD x 0 ^^^ 63)) = 0 := fun q => by rw [hb.mpr q] at z; cases z
        rw [show (((pE (sP S j)).getD e 0 &&& ((pE (sP S j)).getD x 0 ^^^ 63)) == 0) = false by simpa using hz] at i1
        exact i1
      · rw [hb.mp z] at i1
        exact i1
    · refine w_M_quotientSize_38 dn.1.1 (br_le e k rfl rfl (fun z => by omega) (fun _ => ?_))
      have lk : k < (pE (sP S j)).length := by omega
      have ckk := el64 h6 (getD_mem lk)
      rw [nI_add]
      refine br_b (fun z => ?_) (fun z => ?_)
      · subst z
        exact ih2 false ⟨fun q => (by cases q), fun q => hb.mpr fun i hi => q i (by omega)⟩
      · subst z
        have hall := hb.mp rfl
        rw [nI_clamp (by omega), nI_clamp (by omega), nI_clamp (by omega), el.2.1 k lk, el.2.1 x lx, el.2.1 e he, nm_and ((pE (sP S j)).getD k 0) ckk ((pE (sP S j)).getD x 0) cx, nm_and ((pE (sP S j)).getD e 0) ce ((pE (sP S j)).getD x 0) cx]
        refine ⟨vp_in_nI (by omega) (by decide), vp_in_nI (by omega) (by decide), vp_in_nI (by omega) (by decide), vp_in_nI (by omega) (by decide), br_eq ((pE (sP S j)).getD k 0 &&& (pE (sP S j)).getD x 0) ((pE (sP S j)).getD e 0 &&& (pE (sP S j)).getD x 0) rfl rfl (fun z => ?_) (fun z => ?_) (a31 ckk) (a31 ce)⟩
        · exact ih2 false ⟨fun q => (by cases q), fun q => absurd z (q k (by omega))⟩
        · refine ih2 true ⟨fun _ i hi => ?_, fun _ => rfl⟩
          by_cases hik : i = k
          · subst hik; exact z
          · exact hall i (by omega)
end FILM

/-! the reference finds the elements; results of the operators -/
def PF (a j : Nat) : Prop := a ≠ M_elements ∧ a ≠ M_numberOf ∧ ¬ (a = A_M ∧ j = 5)
section FIN
variable {d g n i : Nat} {up : Nat → Nat} {h : AH}
theorem S_Mfinds {K : AH → Prop} (fM : is_M h) (hi : i < 5) (o : MO h i n up) (w : wfP n up) (hK : ∀ h1, Ext h h1 → sm PF h h1 → ELp (mi h1 M_elements) (mi h1 M_numberOf) (mi h1 A_M 5) (elems n up) → K h1) : Ev (d + 1) g g m_M_finds 0 [.ref A_M, .int (nI i)] [] h (asV K) := by
  have h6 := w.1.2
  have hp := p2_le h6
  have hpp := p2_pos n
  have k1 : M_size ≠ M_elements ∧ M_size ≠ M_numberOf ∧ M_size ≠ A_M := by decide
  have k2 : M_up ≠ M_elements ∧ M_up ≠ M_numberOf ∧ M_up ≠ A_M := by decide
  have k3 : M_elements ≠ M_numberOf ∧ M_elements ≠ A_M ∧ M_numberOf ≠ A_M := by decide
  have kp : ∀ {hh : AH}, sm PF h hh → MO hh i n up := fun s => o.keep s ⟨k1.1, k1.2.1, fun q => k1.2.2 q.1⟩ fun x _ => ⟨k2.1, k2.2.1, fun q => k2.2.2 q.1⟩
  let I : Nat → Nat → AH → Prop := fun c s hh => Ext h hh ∧ sm PF h hh ∧ ELp (mi hh M_elements) (mi hh M_numberOf) (mi hh A_M 5) (els n up c s)
  refine w_M_finds_0 fM ?_
  refine for_up (σ := AH) (fun c hh => Ev (d + 1) g g m_M_finds 7 [.ref A_M, .int (nI i), .int (nI c)] [] hh (asV K)) (fun c hh => I c 0 hh) (n + 1) (fun hh hI => ?_) (fun c hh hc hI ih => ?_) 0 _ (Nat.zero_le _) ?_
  · obtain ⟨e, s1, el⟩ := hI
    refine w_M_finds_7 (fM.ext e) ?_
    rw [nI_clamp (by omega), (kp s1).1]
    exact ⟨vp_in_nI (by omega) (by decide), br_lt n (n + 1) rfl rfl (fun _ => hK hh e s1 el) (fun z => by omega)⟩
  · refine w_M_finds_7 (fM.ext hI.1) ?_
    rw [nI_clamp (by omega), (kp hI.2.1).1]
    refine ⟨vp_in_nI (by omega) (by decide), br_lt n c rfl rfl (fun z => by omega) fun _ => ?_⟩
    refine for_up (σ := AH) (fun s hh => Ev (d + 1) g g m_M_finds 19 [.ref A_M, .int (nI i), .int (nI c), .int (nI s)] [] hh (asV K)) (fun s hh => I c s hh) (2 ^ n) (fun hh hI => ?_) (fun s hh hs hI ih2 => ?_) 0 hh (Nat.zero_le _) hI
    · obtain ⟨e, s1, el⟩ := hI
      refine w_M_finds_19 (fM.ext e) (S_MallOf (fM.ext e) hi (kp s1).1 h6 fun _ => ?_)
      refine br_lt (2 ^ n - 1) (2 ^ n) rfl rfl (fun _ => ?_) (fun z => by omega)
      rw [nI_add]
      refine ih hh ⟨e, s1, ?_⟩
      unfold els at el ⊢
      rw [← pre_row]
      exact el
    · obtain ⟨e, s1, el⟩ := hI
      have fe := fM.ext e
      refine w_M_finds_19 fe (S_MallOf fe hi (kp s1).1 h6 fun _ => ?_)
      refine br_lt (2 ^ n - 1) s rfl rfl (fun z => by omega) (fun _ => ?_)
      refine S_Mbits (by omega) fun _ => ?_
      have hpl := pop_le6 n h6 s hs
      refine br_ne (pop s) c rfl rfl (fun z => ?_) (fun z => ?_)
      · subst z
        have hlen := els_len (up := up) h6 hs
        have hns : s ∉ els n up (pop s) s := fun hm => by
          have := (mem_pre (by omega)).mp (List.mem_filter.mp hm).1
          omega
        refine S_MisUpSet fe hi (kp s1) w (by omega) fun _ => ?_
        refine br_nb (fun hu => ?_) (fun hu => ?_)
        · rw [nI_add]
          refine ih2 hh ⟨e, s1, ?_⟩
          have e2 : els n up (pop s) (s + 1) = els n up (pop s) s := by unfold els; rw [pre_yes rfl, List.filter_append]; simp [hu]
          rw [e2]
          exact el
        · have e2 : els n up (pop s) (s + 1) = els n up (pop s) s ++ [s] := by unfold els; rw [pre_yes rfl, List.filter_append]; simp [hu]
          rw [el.1, nI_clamp (by omega), nI_clamp (by omega), mi_ne (Ne.symm k3.2.1), el.1, mi_ne (Ne.symm k3.2.2), mi_ne (Ne.symm k3.2.1), el.1, nI_add, nI_add]
          refine ⟨vp_in_nI (by omega) (by decide), vp_in_nI (by omega) (by decide), ih2 _ ⟨((e.trans (ext_wi _ _ _ _)).trans (ext_wi _ _ _ _)).trans (ext_wi _ _ _ _), ((s1.wi (fun q => q.1 rfl)).wi (fun q => q.2.1 rfl)).wi (fun q => q.2.2 ⟨rfl, rfl⟩), ?_⟩⟩
          rw [e2, mi_eq]
          exact el.app hns (fun j hj => by rw [mi_ne k3.2.1, mi_ne k3.1, mi_nj (by omega)]) (by rw [mi_ne k3.2.1, mi_ne k3.1, mi_eq]) (fun t ht => by rw [mi_ne k3.2.2, mi_nj ht, mi_ne (Ne.symm k3.1)]) (by rw [mi_ne k3.2.2, mi_eq])
      · rw [nI_add]
        refine ih2 hh ⟨e, s1, ?_⟩
        unfold els at el ⊢
        rw [pre_no z]
        exact el
  · refine ⟨ext_wi _ _ _ _, sm.rf.wi (fun q => q.2.2 ⟨rfl, rfl⟩), ⟨mi_eq, fun j hj => ?_, fun t ht => ?_⟩⟩
    · simp [els, pre] at hj
    · simp [els, pre] at ht
theorem S_MisFound {K : Int32 → AH → Prop} {v : Int32} (fM : is_M h) (hK0 : ix v 4 = none → K (nI 0) h) (hK1 : ∀ j, ix v 4 = some j → ∃ m u, MO h j m u ∧ wfP m u ∧ ∀ h1, Ext h h1 → sm PF h h1 → ELp (mi h1 M_elements) (mi h1 M_numberOf) (mi h1 A_M 5) (elems m u) → K (nI 1) h1) : Ev (d + 2) g g m_M_isFound 0 [.ref A_M, .int v] [] h (asI K) := by
  refine w_M_isFound_0 fM (S_MisPoset fun _ => ?_)
  cases hv : ix v 4 with
  | none => exact br_nb (fun _ => hK0 hv) (fun z => by cases z)
  | some j =>
    obtain ⟨hj, rfl⟩ := ix_some hv
    obtain ⟨m, u, o, w, hk⟩ := hK1 j hv
    exact br_nb (fun z => by cases z) (fun _ => S_Mfinds fM (by omega) o w fun h1 e s el _ => hk h1 e s el)
end FIN
/-! operators on elements -/
def opS (n : Nat) (up : Nat → Nat) (op s t : Nat) : Nat := match op with
  | 0 => s &&& t
  | 1 => s ||| t
  | _ => impk up s t n
theorem UpS.and {n : Nat} {up : Nat → Nat} {s t : Nat} (a : UpS n up s) (b : UpS n up t) : UpS n up (s &&& t) := by
  intro x y hx hy h1 h2
  rw [Nat.testBit_and, Bool.and_eq_true] at h1 ⊢
  exact ⟨a x y hx hy h1.1 h2, b x y hx hy h1.2 h2⟩
theorem UpS.or {n : Nat} {up : Nat → Nat} {s t : Nat} (a : UpS n up s) (b : UpS n up t) : UpS n up (s ||| t) := by
  intro x y hx hy h1 h2
  rw [Nat.testBit_or, Bool.or_eq_true] at h1 ⊢
  exact h1.imp (fun h => a x y hx hy h h2) (fun h => b x y hx hy h h2)
theorem UpS.imp {n : Nat} {up : Nat → Nat} (w : wfP n up) (s t : Nat) : UpS n up (impk up s t n) := by
  intro x y hx hy h1 h2
  exact (imp_iff w hy).mpr fun z hz h3 h4 => (imp_iff w hx).mp h1 z hz (w.2.2.2.1 x y z hx hy hz h2 h3) h4
theorem opS_mem {n : Nat} {up : Nat → Nat} (w : wfP n up) {op s t : Nat} (hs : s ∈ elems n up) (ht : t ∈ elems n up) : opS n up op s t ∈ elems n up := by
  have h6 := w.1.2
  obtain ⟨s1, s2⟩ := (mem_elems h6).mp hs
  obtain ⟨t1, t2⟩ := (mem_elems h6).mp ht
  rw [isUp_iff w] at s2 t2
  apply (mem_elems h6).mpr
  rw [isUp_iff w]
  match op with
  | 0 => exact ⟨Nat.lt_of_le_of_lt Nat.and_le_left s1, s2.and t2⟩
  | 1 => exact ⟨Nat.or_lt_two_pow s1 t1, s2.or t2⟩
  | k + 2 => exact ⟨impk_lt up s t n, UpS.imp w s t⟩
theorem getD_mem {L : List Nat} {i : Nat} (h : i < L.length) : L.getD i 0 ∈ L := by
  rw [List.getD_eq_getElem?_getD, List.getElem?_eq_getElem h]
  exact List.getElem_mem h
theorem el64 {n : Nat} {up : Nat → Nat} (h6 : n ≤ 6) {s : Nat} (h : s ∈ elems n up) : s < 64 := Nat.lt_of_lt_of_le ((mem_elems h6).mp h).1 (p2_le h6)
theorem elems_len {n : Nat} {up : Nat → Nat} (h6 : n ≤ 6) : (elems n up).length ≤ 64 := by
  have h : ∀ n, n < 7 → (pre n (n + 1) 0).length ≤ 64 := by decide +kernel
  exact Nat.le_trans (List.length_filter_le _ _) (h n (by omega))
theorem idx_lt {L : List Nat} {s : Nat} (h : s ∈ L) : L.idxOf s < L.length := List.idxOf_lt_length_of_mem h
theorem getD_idx {L : List Nat} {s : Nat} (h : s ∈ L) : L.getD (L.idxOf s) 0 = s := by
  rw [List.getD_eq_getElem?_getD, List.getElem?_eq_getElem (idx_lt h)]
  simp
section RES
variable {d g n a : Nat} {up val : Nat → Nat} {h : AH} {K : Int32 → AH → Prop} {x y op : Nat}
theorem S_resultOf (f : is_P h a) (P : PC h a n up val) (w : wfP n up) (ho : op < 3) (hx : x < (elems n up).length) (hy : y < (elems n up).length) (hK : K (nI ((elems n up).idxOf (opS n up op ((elems n up).getD x 0) ((elems n up).getD y 0)))) h) : Ev (d + 2) g g m_P_resultOf 0 [.ref a, .int (nI op), .int (nI x), .int (nI y)] [] h (asI K) := by
  have h6 := w.1.2
  have hl := elems_len (up := up) h6
  obtain ⟨o, hd, el, nn, hv⟩ := P
  have mx := getD_mem hx
  have my := getD_mem hy
  have lx := el64 h6 mx
  have ly := el64 h6 my
  have mo := opS_mem w (op := op) mx my
  have lo := el64 h6 mo
  refine w_P_resultOf_0 f ?_
  rw [nI_clamp (by omega), nI_clamp (by omega), el.2.1 x hx, el.2.1 y hy]
  refine ⟨vp_in_nI (by omega) (by decide), vp_in_nI (by omega) (by decide), br_ne op 0 rfl rfl (fun z => ?_) (fun z => br_ne op 1 rfl rfl (fun z1 => ?_) (fun z1 => ?_))⟩
  · subst z
    have mo : (elems n up).getD x 0 &&& (elems n up).getD y 0 ∈ elems n up := mo
    rw [nm_and _ lx _ ly, nI_clamp (by have := el64 h6 mo; omega), el.2.2 _ mo]
    exact ⟨vp_in_nI (el64 h6 mo) (by decide), hK⟩
  · subst z1
    have mo : (elems n up).getD x 0 ||| (elems n up).getD y 0 ∈ elems n up := mo
    rw [nm_or _ lx _ ly, nI_clamp (by have := el64 h6 mo; omega), el.2.2 _ mo]
    exact ⟨vp_in_nI (el64 h6 mo) (by decide), hK⟩
  · have h2 : op = 2 := by omega
    subst h2
    have mo : impk up ((elems n up).getD x 0) ((elems n up).getD y 0) n ∈ elems n up := mo
    refine S_implication f o.1 w hd lx ly fun _ => ?_
    rw [nI_clamp (by have := el64 h6 mo; omega), el.2.2 _ mo]
    exact ⟨vp_in_nI (el64 h6 mo) (by decide), hK⟩
end RES

/-! maps: the reference's search -/
section MAPM
variable {d g i j k : Nat} {h : AH} {S : St} {K : Int32 → AH → Prop}
noncomputable def aM (S : St) (i j k : Nat) : Nat → Bool := AM (sP S i).1 (sP S j).1 (sP S i).2.1 (sP S j).2.1 k
def nM (S : St) (i j : Nat) : Nat := (sP S j).1 ^ (sP S i).1
theorem sub1 (x : Int32) : x + (cI (.negSucc 0)) = x - nI 1 := by rw [Int32.sub_eq_add_neg]; rfl
theorem m1m : (nI 0 - nI 1 : Int32) < 0 := by decide
theorem frMp {hh : AH} (W : WS S) (I : InvM h S) (e : Ext h hh) (s : sm (fun q _ => q ≠ 91) h hh) : doneM S h hh := by
  refine ⟨I.keep W e (s.sub fun q z hq => ?_), e, s.sub fun q z hq => ?_⟩
  · simp only [PMx, M_size, M_elements, M_numberOf, M_made, M_pending, M_given, M_stack, M_map, M_moved, M_up] at hq; omega
  · omega
theorem S_MmapsOf {b : Bool} (hk : k < 4) (hi : i < 4) (hj : j < 4) (W : WS S) (I : InvM h S) (K1 : b = false → ∀ h1, doneM S h h1 → K (nI (ck (aM S i j k) (nM S i j))) h1) (K2 : b = true → ck (aM S i j k) (nM S i j) = 0 → ∀ h1, doneM S h h1 → K (nI 0) h1) (K3 : b = true → ∀ c, c < nM S i j → aM S i j k c = true → (∀ c', c' < c → aM S i j k c' = false) → ∀ h1, doneM S h h1 → (∀ x, x < (sP S i).1 → mi h1 M_map x = nI (dec (sP S i).1 (sP S j).1 c x)) → K (nI 1) h1) : Ev (d + 3) g g m_M_mapsOf 0 [.ref A_M, .int (nI i), .int (nI j), .int (nI k), .int (bI b)] [] h (asI K) := by
  have w1 := (W.1 i hi).1
  have w2 := (W.1 j hj).1
  have o1 := (I.2.1 i hi).1
  have o2 := (I.2.1 j hj).1
  have vi : vp_in (nI i) 5 := vp_in_nI (by omega) (by decide)
  have vj : vp_in (nI j) 5 := vp_in_nI (by omega) (by decide)
  have hN : nM S i j ≤ 46656 := pow6 (sP S i).1 (by have := w1.1.2; omega) (sP S j).1 (by have := w2.1.2; omega)
  unfold nM aM at *
  revert K1 K2 K3 hN
  generalize (sP S i).1 = n1 at *
  generalize (sP S i).2.1 = u1 at *
  generalize (sP S j).1 = n2 at *
  generalize (sP S j).2.1 = u2 at *
  intro K1 K2 K3 hN
  have h1 := w1.1.2
  have h2 := w2.1.2
  have h2' := w2.1.1
  have km : ∀ {hh : AH}, sm (fun q _ => q ≠ 91) h hh → MO hh i n1 u1 ∧ MO hh j n2 u2 := fun s => ⟨o1.keep s (by decide) fun x _ => by show (75 : Nat) ≠ 91; decide, o2.keep s (by decide) fun x _ => by show (75 : Nat) ≠ 91; decide⟩
  refine w_M_mapsOf_0 I.1 ?_
  refine for_up (σ := Unit) (fun x _ => Ev (d + 3) g g m_M_mapsOf 6 [.ref A_M, .int (nI i), .int (nI j), .int (nI k), .int (bI b), .int (nI (n2 ^ x)), .int (nI x)] [] h (asI K)) (fun _ _ => True) n1 (fun _ _ => ?_) (fun x _ hx _ ih => ?_) 0 () (Nat.zero_le _) trivial
  rotate_left
  · refine w_M_mapsOf_6 I.1 ⟨vi, ?_⟩
    rw [nI_clamp (n := i) (by omega), o1.1, nI_clamp (n := j) (by omega), o2.1, pk_mul, nI_add, ← Nat.pow_succ]
    exact br_le _ x rfl rfl (fun z => by omega) (fun _ => ⟨vj, ih () trivial⟩)
  refine w_M_mapsOf_6 I.1 ⟨vi, ?_⟩
  rw [nI_clamp (n := i) (by omega), o1.1]
  refine br_le _ _ rfl rfl (fun _ => ?_) (fun z => by omega)
  refine for_up (σ := AH) (fun c hh => Ev (d + 3) g g m_M_mapsOf 40 [.ref A_M, .int (nI i), .int (nI j), .int (nI k), .int (bI b), .int (nI (n2 ^ n1)), .int (nI (ck (AM n1 n2 u1 u2 k) c)), .int (nI c)] [] hh (asI K)) (fun c hh => Ext h hh ∧ sm (fun q _ => q ≠ 91) h hh ∧ (b = true → ck (AM n1 n2 u1 u2 k) c = 0)) (n2 ^ n1) (fun hh hI => ?_) (fun c hh hc hI ih => ?_) 0 h (Nat.zero_le _) ⟨Ext.rfl', sm.rf, fun _ => rfl⟩
  · obtain ⟨ee, sa, hz⟩ := hI
    refine w_M_mapsOf_40 (I.1.ext ee) (br_le _ _ rfl rfl (fun _ => ?_) (fun z => by omega))
    cases b with
    | false => exact K1 rfl hh (frMp W I ee sa)
    | true =>
      have := hz rfl
      rw [this]
      exact K2 rfl this hh (frMp W I ee sa)
  obtain ⟨ee, sa, hz⟩ := hI
  refine w_M_mapsOf_40 (I.1.ext ee) (br_le _ c rfl rfl (fun z => by omega) (fun _ => ⟨vi, ?_⟩))
  rw [nI_clamp (n := i) (by omega), (km sa).1.1]
  have dl : ∀ t (hh : AH), t ≤ n1 → Ext h hh → sm (fun q _ => q ≠ 91) h hh → (∀ x, t ≤ x → x < n1 → mi hh M_map x = nI (dec n1 n2 c x)) → Ev (d + 3) g g m_M_mapsOf 61 [.ref A_M, .int (nI i), .int (nI j), .int (nI k), .int (bI b), .int (nI (n2 ^ n1)), .int (nI (ck (AM n1 n2 u1 u2 k) c)), .int (nI c), .int (nI (c / n2 ^ (n1 - t))), .int (nI t - nI 1)] [] hh (asI K) := by
    intro t
    induction t with
    | zero =>
      intro hh _ ee sa hm
      obtain ⟨q1, q2⟩ := km sa
      refine w_M_mapsOf_61 (I.1.ext ee) ⟨fun _ => ?_, fun z => absurd m1m z⟩
      rw [nI_add c 1, nI_add _ 1]
      refine S_MisOfKind (f := dec n1 n2 c) hk (I.1.ext ee) hi hj q1 q2 w1 w2 (fun x hx => ⟨hm x (Nat.zero_le _) hx, dec_lt (by omega)⟩) (fun y _ => ⟨fun _ => ?_, fun z => absurd z (by decide)⟩) (fun y _ => ⟨fun z => absurd rfl z, fun _ => ?_⟩)
      · have a := AM_t y
        refine br_b (fun e => ?_) (fun e => ?_)
        · have i1 := ih hh ⟨ee, sa, fun z => by rw [e] at z; cases z⟩
          unfold ck at i1
          rw [a] at i1
          exact i1
        · exact K3 e c hc a (fun c' hc' => ck_zero (hz e) hc') hh (frMp W I ee sa) fun x hx => hm x (Nat.zero_le _) hx
      · have a := AM_f y
        have e1 : ck (AM n1 n2 u1 u2 k) (c + 1) = ck (AM n1 n2 u1 u2 k) c := by
          show ck (AM n1 n2 u1 u2 k) c + (bif AM n1 n2 u1 u2 k c then 1 else 0) = _
          rw [a]
          rfl
        have i1 := ih hh ⟨ee, sa, fun z => by rw [e1]; exact hz z⟩
        rw [e1] at i1
        exact i1
    | succ t it =>
      intro hh ht ee sa hm
      obtain ⟨q1, q2⟩ := km sa
      have nz : ¬ nI n2 = 0 := nI_ne0 (by omega) (by omega)
      have xl : c / n2 ^ (n1 - (t + 1)) ≤ c := Nat.div_le_self _ _
      refine w_M_mapsOf_61 (I.1.ext ee) ?_
      rw [sub1, pk_sub (a := t + 1) (b := 1) (by omega), Nat.add_sub_cancel, nI_clamp (n := t) (by omega), nI_clamp (n := j) (by omega), q2.1, pk_rem (by omega) (by omega) (by omega), mi_ne (show M_size ≠ M_map by decide), q2.1, pk_div (by omega) (by omega) (by omega)]
      refine ⟨fun z => absurd z (nI_nl (by omega)), fun _ => ⟨vj, nz, vp_in_nI (by omega) (by decide), vj, nz, ?_⟩⟩
      have e1 : c / n2 ^ (n1 - (t + 1)) / n2 = c / n2 ^ (n1 - t) := by rw [Nat.div_div_eq_div_mul, ← Nat.pow_succ, show (n1 - (t + 1)).succ = n1 - t by omega]
      rw [e1]
      refine it _ (by omega) (ee.trans (ext_wi _ _ _ _)) (sa.wi (fun q => q rfl)) fun x hx1 hx2 => ?_
      by_cases ex : x = t
      · subst ex
        rw [mi_eq]
        unfold dec
        rw [show n1 - 1 - x = n1 - (x + 1) by omega]
      · rw [mi_nj ex]; exact hm x (by omega) hx2
  have kk := dl n1 hh (Nat.le_refl _) ee sa fun x h1 h2 => by omega
  rw [Nat.sub_self, Nat.pow_zero, Nat.div_one] at kk
  exact kk
end MAPM
/-! countMaps, firstMap, isIsomorphic -/
def rMp (v a k : Int32) (f : Nat → Nat → Nat → Int32) : Int32 := match ix v 4, ix a 4 with
  | some i, some j => (match rg k 0 3 with
    | none => kE2
    | some c => f i j c)
  | _, _ => m1
theorem rMp_v {v a k : Int32} {f : Nat → Nat → Nat → Int32} (e : ix v 4 = none) : rMp v a k f = m1 := by unfold rMp; rw [e]
theorem rMp_a {v a k : Int32} {f : Nat → Nat → Nat → Int32} (e : ix a 4 = none) : rMp v a k f = m1 := by unfold rMp; rw [e]; cases ix v 4 <;> rfl
theorem rMp_k {v a k : Int32} {f : Nat → Nat → Nat → Int32} {i j : Nat} (e1 : ix v 4 = some i) (e2 : ix a 4 = some j) (e : rg k 0 3 = none) : rMp v a k f = kE2 := by unfold rMp; rw [e1, e2, e]
theorem rMp_s {v a k : Int32} {f : Nat → Nat → Nat → Int32} {i j c : Nat} (e1 : ix v 4 = some i) (e2 : ix a 4 = some j) (e : rg k 0 3 = some c) : rMp v a k f = f i j c := by unfold rMp; rw [e1, e2, e]
noncomputable def rCM (S : St) (v a k : Int32) : Int32 := rMp v a k fun i j c => nI (ck (aM S i j c) (nM S i j))
noncomputable def rFM (S : St) (v a k : Int32) : Int32 := rMp v a k fun i j c => if ck (aM S i j c) (nM S i j) = 0 then kNone else nI (digs (dec (sP S i).1 (sP S j).1 (ffn (aM S i j c) (nM S i j) 0)) (sP S i).1)
noncomputable def rIs (S : St) (v a : Int32) : Int32 := rMp v a (nI 3) fun i j _ => if (sP S i).1 = (sP S j).1 then (if ck (aM S i j 3) (nM S i j) = 0 then nI 0 else nI 1) else nI 0
theorem ck_ne {P : Nat → Bool} {c N : Nat} (hc : c < N) (hp : P c = true) : ck P N ≠ 0 := fun z => by
  have := ck_zero z hc
  rw [hp] at this
  cases this
section MAPO
variable {d g : Nat} {h : AH} {S : St} {K : Int32 → AH → Prop} {v a b : Int32}
theorem M_countMaps (W : WS S) (I : InvM h S) (hK : ∀ h1, doneM S h h1 → K (rCM S v a b) h1) : Ev (d + 4) g g m_M_countMaps 0 [.ref A_M, .int v, .int a, .int b] [] h (asI K) := by
  unfold rCM at hK
  have kh := hK h (doneM.rf I)
  refine w_M_countMaps_0 I.1 (S_isP (fun e => by rw [rMp_v e] at kh; exact kh) (fun i hi hv1 e1 => (S_isP (fun e => by rw [rMp_a e] at kh; exact kh) (fun j hj hv2 e2 => ?_)).mI fun x h1 _ kk e => (kk e).symm))
  subst hv1 hv2
  refine S_Mrg (lo := 0) (hi := 3) fun _ => br_b (fun e => by rw [rMp_k e1 e2 (rS_none e)] at kh; exact kh) (fun e => ?_)
  obtain ⟨c, ec⟩ := Option.isSome_iff_exists.mp e
  rw [rMp_s e1 e2 ec] at hK
  obtain ⟨-, c1, rfl⟩ := rg_some ec
  exact S_MmapsOf (b := false) (by omega) hi hj W I (fun _ h1 dn _ => hK h1 dn) (fun z => by cases z) (fun z => by cases z)
theorem M_firstMap (W : WS S) (I : InvM h S) (hK : ∀ h1, doneM S h h1 → K (rFM S v a b) h1) : Ev (d + 4) g g m_M_firstMap 0 [.ref A_M, .int v, .int a, .int b] [] h (asI K) := by
  unfold rFM at hK
  have kh := hK h (doneM.rf I)
  refine w_M_firstMap_0 I.1 (S_isP (fun e => by rw [rMp_v e] at kh; exact kh) (fun i hi hv1 e1 => (S_isP (fun e => by rw [rMp_a e] at kh; exact kh) (fun j hj hv2 e2 => ?_)).mI fun x h1 _ kk e => (kk e).symm))
  subst hv1 hv2
  refine S_Mrg (lo := 0) (hi := 3) fun _ => br_nb (fun e => by rw [rMp_k e1 e2 (rS_none e)] at kh; exact kh) (fun e => ?_)
  obtain ⟨c, ec⟩ := Option.isSome_iff_exists.mp e
  rw [rMp_s e1 e2 ec] at hK
  obtain ⟨-, c1, rfl⟩ := rg_some ec
  refine S_MmapsOf (b := true) (by omega) hi hj W I (fun z => by cases z) (fun _ z h1 dn _ => ⟨fun y => absurd rfl y, fun _ => ?_⟩) (fun _ x hx hp hn h1 dn hm _ => ⟨fun _ => ?_, fun y => absurd y (by decide)⟩)
  · rw [if_pos z] at hK; exact hK h1 dn
  · rw [if_neg (ck_ne hx hp), ffn_uniq hx hp hn] at hK
    have w1 := (W.1 i hi).1
    have h6 := w1.1.2
    have vi : vp_in (nI i) 5 := vp_in_nI (by omega) (by decide)
    have o1 := (dn.1.2.1 i hi).1
    refine for_up (σ := Unit) (fun y _ => Ev (d + 4) g g m_M_firstMap 51 [.ref A_M, .int (nI i), unk, unk, .int (nI (digs (dec (sP S i).1 (sP S j).1 x) y)), .int (nI y)] [] h1 (asI K)) (fun _ _ => True) (sP S i).1 (fun _ _ => ?_) (fun y _ hy _ ih => ?_) 0 () (Nat.zero_le _) trivial
    · refine w_M_firstMap_51 dn.1.1 ⟨vi, ?_⟩
      rw [nI_clamp (n := i) (by omega), o1.1]
      exact br_le _ _ rfl rfl (fun _ => hK h1 dn) (fun z => by omega)
    · refine w_M_firstMap_51 dn.1.1 ⟨vi, ?_⟩
      rw [nI_clamp (n := i) (by omega), o1.1, nI_clamp (n := y) (by omega), hm y hy, pk_mul, nI_add, nI_add, Nat.mul_comm 10]
      exact br_le _ y rfl rfl (fun z => by omega) (fun _ => ⟨vp_in_nI (by omega) (by decide), ih () trivial⟩)
theorem M_isIsomorphic (W : WS S) (I : InvM h S) (hK : ∀ h1, doneM S h h1 → K (rIs S v a) h1) : Ev (d + 4) g g m_M_isIsomorphic 0 [.ref A_M, .int v, .int a] [] h (asI K) := by
  unfold rIs at hK
  have kh := hK h (doneM.rf I)
  refine w_M_isIsomorphic_0 I.1 (S_isP (fun e => by rw [rMp_v e] at kh; exact kh) (fun i hi hv1 e1 => (S_isP (fun e => by rw [rMp_a e] at kh; exact kh) (fun j hj hv2 e2 => ?_)).mI fun x h1 _ kk e => (kk e).symm))
  subst hv1 hv2
  rw [rMp_s e1 e2 (rg_nI (j := 3) (by decide) (by decide) (by decide))] at hK
  have h1 := (W.1 i hi).1.1.2
  have h2 := (W.1 j hj).1.1.2
  rw [nI_clamp (n := i) (by omega), nI_clamp (n := j) (by omega), (I.2.1 i hi).1.1, (I.2.1 j hj).1.1]
  refine ⟨vp_in_nI (by omega) (by decide), vp_in_nI (by omega) (by decide), br_ne (sP S i).1 (sP S j).1 rfl rfl (fun z => ?_) (fun z => by rw [if_neg z] at hK; exact hK h (doneM.rf I))⟩
  rw [if_pos z] at hK
  refine S_MmapsOf (k := 3) (b := true) (by decide) hi hj W I (fun z => by cases z) (fun _ z h1 dn _ => ⟨fun _ => ?_, fun y => absurd y (by decide)⟩) (fun _ x hx hp hn h1 dn hm _ => ⟨fun y => absurd rfl y, fun _ => ?_⟩)
  · rw [if_pos z] at hK; exact hK h1 dn
  · rw [if_neg (ck_ne hx hp)] at hK; exact hK h1 dn
end MAPO

/-! countMaps, firstMap, isIsomorphic: the class -/
theorem mr_hn (h : AH) (t n a i : Nat) : mr (hn h t n) a i = if a = h.1.length then none else mr h a i := rfl
theorem mi_hn (h : AH) (t n a i : Nat) : mi (hn h t n) a i = if a = h.1.length then 0 else mi h a i := rfl
theorem ml_hn (h : AH) (t n a i : Nat) : ml (hn h t n) a i = if a = h.1.length then 0 else ml h a i := rfl
theorem mr_wi (h : AH) (a i : Nat) (v : Int32) (b j : Nat) : mr (wi h a i v) b j = mr h b j := rfl
theorem mr_wr (h : AH) (a i v b j : Nat) : mr (wr h a i v) b j = if b = a ∧ j = i then some v else mr h b j := rfl
theorem mi_wr (h : AH) (a i v b j : Nat) : mi (wr h a i v) b j = mi h b j := rfl
theorem len_hn (h : AH) (t n : Nat) : (hn h t n).1.length = h.1.length + 1 := by simp [hn]
theorem sm.hn {P : Nat → Nat → Prop} {h h1 : AH} (s : sm P h h1) {t n : Nat} (hx : ∀ z, ¬ P h1.1.length z) : sm P h (hn h1 t n) := fun y j hy => by
  have hne : y ≠ h1.1.length := fun e => hx j (e ▸ hy)
  rw [mi_hn, ml_hn, if_neg hne, if_neg hne]
  exact s y j hy
theorem sm.wr {P : Nat → Nat → Prop} {h h1 : AH} (s : sm P h h1) {a i v : Nat} : sm P h (wr h1 a i v) := fun y j hy => s y j hy
section MAPN
variable {d g i j k : Nat} {h : AH} {S : St} {K : Int32 → AH → Prop} {b : Bool}
theorem S_mk {Q : AH → Prop} (hi : i < 4) (hj : j < 4) (I : InvC h S) (hl : 96 ≤ h.1.length) (hQ : ∀ h4, Ext h h4 → sm (fun q _ => q < h.1.length) h h4 → SRC h4 h.1.length (aP i) (aP j) (sP S i).1 (sP S j).1 (sP S i).2.1 (sP S j).2.1 (sP S i).2.2 (sP S j).2.2 k b → mi h4 h.1.length 5 = nI 0 → Q h4) : Ev (d + 1) (g + 1) g m_S_init 0 [.ref h.1.length, .ref (aP i), .ref (aP j), .int (nI k), .int (bI b)] [] (hn h 11 6) (asV Q) := by
  have e0 := ext_hn h 11 6
  have e1 := ext_hn (hn h 11 6) 0 6
  have fi := ((I.1.ps i hi).2.ext e0)
  have fj := ((I.1.ps j hj).2.ext e0)
  have ll := len_hn h 11 6
  have nl : h.1.length ≠ (hn h 11 6).1.length := by rw [ll]; omega
  have n0 : ∀ z, mr (hn (hn h 11 6) 0 6) h.1.length z = none := fun z => by rw [mr_hn, if_neg nl, mr_hn, if_pos rfl]
  have c1 : mr (hn (hn h 11 6) 0 6) h.1.length 4 = none := n0 4
  refine w_S_init_0 (hs_hn h 11 6) fi fj ?_
  rw [nI_clamp (n := 6) (by decide)]
  have x1 := ext_wr (hn h 11 6).1.length c1
  have c2 : mr (wi (wr (hn (hn h 11 6) 0 6) h.1.length 4 (hn h 11 6).1.length) h.1.length 5 (nI 0)) h.1.length 0 = none := by rw [mr_wi, mr_wr, if_neg (fun q => absurd q.2 (by decide))]; exact n0 0
  have x2 := ext_wr (aP i) c2
  have c3 : mr (wr (wi (wr (hn (hn h 11 6) 0 6) h.1.length 4 (hn h 11 6).1.length) h.1.length 5 (nI 0)) h.1.length 0 (aP i)) h.1.length 1 = none := by rw [mr_wr, if_neg (fun q => absurd q.2 (by decide)), mr_wi, mr_wr, if_neg (fun q => absurd q.2 (by decide))]; exact n0 1
  have x3 := ext_wr (aP j) c3
  have s0 : sm (fun q _ => q < h.1.length) h (hn h 11 6) := sm.hn sm.rf (fun z => Nat.lt_irrefl _)
  have s1 : sm (fun q _ => q < h.1.length) h (hn (hn h 11 6) 0 6) := sm.hn s0 (fun z => by show ¬ (hn h 11 6).1.length < h.1.length; omega)
  have bb : isB (bI b) = true := by cases b <;> decide
  have eT : Ext (hn (hn h 11 6) 0 6) (wi (wi (wr (wr (wi (wr (hn (hn h 11 6) 0 6) h.1.length 4 (hn h 11 6).1.length) h.1.length 5 (nI 0)) h.1.length 0 (aP i)) h.1.length 1 (aP j)) h.1.length 2 (nI k)) h.1.length 3 (bI b)) := ((((x1.trans (ext_wi _ _ _ _)).trans x2).trans x3).trans (ext_wi _ _ _ _)).trans (ext_wi _ _ _ _)
  have sT : sm (fun q _ => q < h.1.length) h (wi (wi (wr (wr (wi (wr (hn (hn h 11 6) 0 6) h.1.length 4 (hn h 11 6).1.length) h.1.length 5 (nI 0)) h.1.length 0 (aP i)) h.1.length 1 (aP j)) h.1.length 2 (nI k)) h.1.length 3 (bI b)) := (((((s1.wr).wi (Nat.lt_irrefl _)).wr).wr).wi (Nat.lt_irrefl _)).wi (Nat.lt_irrefl _)
  refine ⟨c1, c2, c3, bb, hQ _ ((e0.trans e1).trans eT) sT ⟨⟨(e1.trans eT).shp (hs_hn h 11 6), ?_, ?_, ?_, ?_, fi.ext (e1.trans eT), fj.ext (e1.trans eT)⟩, (I.2.1 i hi).keep sT fun q z q1 q2 => ?_, (I.2.1 j hj).keep sT fun q z q1 q2 => ?_, ?_, mi_eq⟩ ?_⟩
  · rw [mr_wi, mr_wi, mr_wr, if_neg (fun q => absurd q.2 (by decide)), mr_wr, if_pos ⟨rfl, rfl⟩]
  · rw [mr_wi, mr_wi, mr_wr, if_pos ⟨rfl, rfl⟩]
  · rw [mr_wi, mr_wi, mr_wr, if_neg (fun q => absurd q.2 (by decide)), mr_wr, if_neg (fun q => absurd q.2 (by decide)), mr_wi, mr_wr, if_pos ⟨rfl, rfl⟩, ll]
  · rw [← ll]; exact eT.shp (hs_hn (hn h 11 6) 0 6)
  · show q < h.1.length
    simp only [aP] at *; omega
  · show q < h.1.length
    simp only [aP] at *; omega
  · rw [mi_nj (by decide), mi_eq]
  · rw [mi_nj (by decide), mi_nj (by decide), mi_wr, mi_wr, mi_eq]
theorem S_maps {Q : AH → Prop} {h4 : AH} (hk : k < 4) (hi : i < 4) (hj : j < 4) (W : WS S) (I : InvC h S) (hl : 96 ≤ h.1.length) (e4 : Ext h h4) (s4 : sm (fun q _ => q < h.1.length) h h4) (Z : SRC h4 h.1.length (aP i) (aP j) (sP S i).1 (sP S j).1 (sP S i).2.1 (sP S j).2.1 (sP S i).2.2 (sP S j).2.2 k b) (c0 : mi h4 h.1.length 5 = nI 0) (K1 : b = false → ∀ h1, doneC S h h1 → mi h1 h.1.length 5 = nI (ck (aM S i j k) (nM S i j)) → Q h1) (K2 : b = true → ck (aM S i j k) (nM S i j) = 0 → ∀ h1, doneC S h h1 → mi h1 h.1.length 5 = nI 0 → Q h1) (K3 : b = true → ∀ c, c < nM S i j → aM S i j k c = true → (∀ c', c' < c → aM S i j k c' = false) → ∀ h1, doneC S h h1 → mi h1 h.1.length 5 = nI 1 → SRC h1 h.1.length (aP i) (aP j) (sP S i).1 (sP S j).1 (sP S i).2.1 (sP S j).2.1 (sP S i).2.2 (sP S j).2.2 k b → (∀ x, x < (sP S i).1 → mi h1 (h.1.length + 1) x = nI (dec (sP S i).1 (sP S j).1 c x)) → Q h1) : Ev (d + 9) g g m_C_searchMaps 0 [.ref h.1.length, .int (nI 0)] [] h4 (asV Q) := by
  have w1 := (W.1 i hi).1
  have w2 := (W.1 j hj).1
  have h6 := w1.1.2
  have l1 : aP i + 5 < h.1.length := by simp only [aP]; omega
  have l2 : aP j + 5 < h.1.length := by simp only [aP]; omega
  rw [show d + 9 = (d + 6 - (sP S i).1) + 3 + (sP S i).1 by omega]
  refine S_search hk w1 w2 l1 l2 (sP S i).1 0 (fun _ => 0) h4 Q (by omega) Z (fun x hx => by omega) (fun x y hxy hy => by omega) ⟨?_, fun _ => ?_⟩ fun h1 e1 s1 P => ?_
  · show mi h4 h.1.length 5 = nI (ck _ (0 * (sP S j).1 ^ (sP S i).1))
    rw [Nat.zero_mul]
    exact c0
  · show ck _ (0 * (sP S j).1 ^ (sP S i).1) = 0
    rw [Nat.zero_mul]
    rfl
  have fr : sm (fun q _ => q < h.1.length) h h1 := s4.trans (s1.sub fun q z hq => ⟨fun y => by omega, fun y => by omega⟩)
  have dn : doneC S h h1 := ⟨I.keep (e4.trans e1) (fr.sub fun q z hq => by omega), e4.trans e1, fr.sub fun q z hq => by omega⟩
  have Z1 := Z.keep l1 l2 e1 (s1.sub fun q z hq => ⟨hq.1, fun y => hq.2 y.1⟩)
  have e0 : (val (sP S j).1 (fun _ => 0) 0 + 1) * (sP S j).1 ^ (sP S i).1 = nM S i j := by show (0 + 1) * _ = _; rw [Nat.zero_add, Nat.one_mul]; rfl
  rcases P with P | P
  · rw [e0] at P
    cases hb : b with
    | false => exact K1 hb h1 dn P.1
    | true =>
      have z := P.2 hb
      have z1 := P.1
      rw [z] at z1
      exact K2 hb z h1 dn z1
  · obtain ⟨hb, c1, c, hc, a, hn, hm⟩ := P
    exact K3 hb c hc a hn h1 dn c1 Z1 hm
variable {v a c : Int32}
theorem C_countMaps (W : WS S) (I : InvC h S) (hl : 96 ≤ h.1.length) (hK : ∀ h1, doneC S h h1 → K (rCM S v a c) h1) : Ev (d + 10) (g + 2) g m_C_countMaps 0 [.ref A_x, .int v, .int a, .int c] [] h (asI K) := by
  unfold rCM at hK
  have kh := hK h (doneC.rf I)
  refine w_C_countMaps_0 I.1 (S_posetAt I.1 (fun e => ?_) (fun i hi _ fi e1 => ⟨fi, ?_⟩))
  · rw [rMp_v e] at kh
    exact S_posetAt I.1 (fun _ => kh) (fun l _ _ fp _ => ⟨fp, kh⟩)
  refine S_posetAt I.1 (fun e => by rw [rMp_a e] at kh; exact kh) (fun j hj _ fj e2 => ⟨fj, ?_⟩)
  refine br_rg (lo := 0) (hi := 3) (fun e => by rw [rMp_k e1 e2 e] at kh; exact kh) (fun k e => ?_)
  rw [rMp_s e1 e2 e] at hK
  obtain ⟨-, k3, rfl⟩ := rg_some e
  refine S_mk (b := false) hi hj I hl fun h4 e4 s4 Z c0 _ => S_maps (by omega) hi hj W I hl e4 s4 Z c0 (fun _ h1 dn hc _ => ?_) (fun z => by cases z) (fun z => by cases z)
  rw [hc]
  exact hK h1 dn
theorem S_digits {r a1 a2 n1 n2 : Nat} {u1 u2 v1 v2 f : Nat → Nat} (Z : SRC h r a1 a2 n1 n2 u1 u2 v1 v2 k b) (h6 : n1 ≤ 6) (hm : ∀ x, x < n1 → mi h (r + 1) x = nI (f x)) (hK : K (nI (digs f n1)) h) : Ev d g g m_S_digits 0 [.ref r] [] h (asI K) := by
  refine w_S_digits_0 Z.1 ?_
  refine for_up (σ := Unit) (fun x _ => Ev d g g m_S_digits 4 [.ref r, .int (nI (digs f x)), .int (nI x)] [] h (asI K)) (fun _ _ => True) n1 (fun _ _ => ?_) (fun x _ hx _ ih => ?_) 0 () (Nat.zero_le _) trivial
  · exact w_S_digits_4 Z.1 (br_le _ _ Z.2.1.1.1 rfl (fun _ => hK) (fun z => by omega))
  · refine w_S_digits_4 Z.1 (br_le _ x Z.2.1.1.1 rfl (fun z => by omega) (fun _ => ⟨vp_in_nI (by omega) (by decide), ?_⟩))
    rw [nI_clamp (n := x) (by omega), hm x hx, pk_mul, nI_add, nI_add]
    exact ih () trivial
theorem C_firstMap (W : WS S) (I : InvC h S) (hl : 96 ≤ h.1.length) (hK : ∀ h1, doneC S h h1 → K (rFM S v a c) h1) : Ev (d + 10) (g + 2) g m_C_firstMap 0 [.ref A_x, .int v, .int a, .int c] [] h (asI K) := by
  unfold rFM at hK
  have kh := hK h (doneC.rf I)
  refine w_C_firstMap_0 I.1 (S_posetAt I.1 (fun e => ?_) (fun i hi _ fi e1 => ⟨fi, ?_⟩))
  · rw [rMp_v e] at kh
    exact S_posetAt I.1 (fun _ => kh) (fun l _ _ fp _ => ⟨fp, kh⟩)
  refine S_posetAt I.1 (fun e => by rw [rMp_a e] at kh; exact kh) (fun j hj _ fj e2 => ⟨fj, ?_⟩)
  refine br_rg (lo := 0) (hi := 3) (fun e => by rw [rMp_k e1 e2 e] at kh; exact kh) (fun k e => ?_)
  rw [rMp_s e1 e2 e] at hK
  obtain ⟨-, k3, rfl⟩ := rg_some e
  refine S_mk (b := true) hi hj I hl fun h4 e4 s4 Z c0 _ => S_maps (by omega) hi hj W I hl e4 s4 Z c0 (fun z => by cases z) (fun _ z h1 dn hc _ => ?_) (fun _ x hx hp hn h1 dn hc Z1 hm _ => ?_)
  · rw [hc]
    rw [if_pos z] at hK
    exact ⟨fun y => absurd rfl y, fun _ => hK h1 dn⟩
  · rw [hc]
    rw [if_neg (ck_ne hx hp), ffn_uniq hx hp hn] at hK
    exact ⟨fun _ => S_digits Z1 (W.1 i hi).1.1.2 hm fun _ => hK h1 dn, fun y => absurd y (by decide)⟩
theorem C_isIsomorphic (W : WS S) (I : InvC h S) (hl : 96 ≤ h.1.length) (hK : ∀ h1, doneC S h h1 → K (rIs S v a) h1) : Ev (d + 10) (g + 2) g m_C_isIsomorphic 0 [.ref A_x, .int v, .int a] [] h (asI K) := by
  unfold rIs at hK
  have kh := hK h (doneC.rf I)
  refine w_C_isIsomorphic_0 I.1 (S_posetAt I.1 (fun e => ?_) (fun i hi _ fi e1 => ⟨fi, ?_⟩))
  · rw [rMp_v e] at kh
    exact S_posetAt I.1 (fun _ => kh) (fun l _ _ fp _ => ⟨fp, kh⟩)
  refine S_posetAt I.1 (fun e => by rw [rMp_a e] at kh; exact kh) (fun j hj _ fj e2 => ⟨fj, ?_⟩)
  rw [rMp_s e1 e2 (rg_nI (j := 3) (by decide) (by decide) (by decide))] at hK
  have h1 := (W.1 i hi).1.1.2
  have h2 := (W.1 j hj).1.1.2
  rw [(I.2.1 i hi).1.1, (I.2.1 j hj).1.1]
  refine br_eq (sP S i).1 (sP S j).1 rfl rfl (fun z => ?_) (fun z => by rw [if_neg z] at hK; exact hK h (doneC.rf I))
  rw [if_pos z] at hK
  refine S_mk (k := 3) (b := true) hi hj I hl fun h4 e4 s4 Z c0 _ => S_maps (by decide) hi hj W I hl e4 s4 Z c0 (fun z => by cases z) (fun _ z h1 dn hc _ => ?_) (fun _ x hx hp hn h1 dn hc Z1 hm _ => ?_)
  · rw [hc]
    rw [if_pos z] at hK
    exact ⟨fun y => absurd rfl y, fun _ => hK h1 dn⟩
  · rw [hc]
    rw [if_neg (ck_ne hx hp)] at hK
    exact ⟨fun _ => hK h1 dn, fun y => absurd y (by decide)⟩
end MAPN

/-! the class's refresh: elements and their numbers -/
abbrev kNone : Int32 := cI (.negSucc 5)
def ELp (bits num : Nat → Int32) (cnt : Int32) (L : List Nat) : Prop := cnt = nI L.length ∧ (∀ i, i < L.length → bits i = nI (L.getD i 0)) ∧ ∀ t, t ∈ L → num t = nI (L.idxOf t)
theorem getD_app1 {L : List Nat} {i s : Nat} (h : i < L.length) : (L ++ [s]).getD i 0 = L.getD i 0 := by
  rw [List.getD_eq_getElem?_getD, List.getD_eq_getElem?_getD, List.getElem?_append_left h]
theorem getD_app2 {L : List Nat} {s : Nat} : (L ++ [s]).getD L.length 0 = s := by
  rw [List.getD_eq_getElem?_getD, List.getElem?_append_right (Nat.le_refl _)]
  simp
theorem idx_app1 {L : List Nat} {t s : Nat} (h : t ∈ L) : (L ++ [s]).idxOf t = L.idxOf t := by
  rw [List.idxOf_append, if_pos h]
theorem idx_app2 {L : List Nat} {s : Nat} (h : s ∉ L) : (L ++ [s]).idxOf s = L.length := by
  rw [List.idxOf_append, if_neg h]
  simp
theorem ELp.app {bits num bits' num' : Nat → Int32} {cnt : Int32} {L : List Nat} {s : Nat} (e : ELp bits num cnt L) (hs : s ∉ L) (hb : ∀ i, i < L.length → bits' i = bits i) (hb2 : bits' L.length = nI s) (hn : ∀ t, t ≠ s → num' t = num t) (hn2 : num' s = nI L.length) : ELp bits' num' (nI (L.length + 1)) (L ++ [s]) := by
  refine ⟨by simp, fun i hi => ?_, fun t ht => ?_⟩
  · rw [List.length_append] at hi
    simp at hi
    by_cases h : i < L.length
    · rw [hb i h, getD_app1 h]
      exact e.2.1 i h
    · have : i = L.length := by omega
      subst this
      rw [hb2, getD_app2]
  · rcases List.mem_append.mp ht with h | h
    · have hne : t ≠ s := fun z => hs (z ▸ h)
      rw [hn t hne, idx_app1 h]
      exact e.2.2 t h
    · have : t = s := by simpa using h
      subst this
      rw [hn2, idx_app2 hs]
/-- a poset of the class -/
def PC (h : AH) (a n : Nat) (up val : Nat → Nat) : Prop := PO h a n up ∧ (∀ s, s < 2 ^ n → mi h (a + 2) s = nI (dsk n up s n)) ∧ ELp (mi h (a + 3)) (mi h (a + 4)) (mi h a 3) (elems n up) ∧ (∀ t, t < 2 ^ n → isUp n up t = false → mi h (a + 4) t = kNone) ∧ ∀ v, v < 3 → mi h (a + 5) v = nI (val v)
section PRF
variable {d g a n : Nat} {up : Nat → Nat} {h : AH} {K : AH → Prop}
theorem S_numberSet {s : Nat} {L : List Nat} (f : is_P h a) (hn : mi h a 0 = nI n) (w : wfP n up) (hs : s < 2 ^ n) (hd : ∀ t, t < 2 ^ n → mi h (a + 2) t = nI (dsk n up t n)) (hL : L.length < 64) (hc : mi h a 3 = nI L.length) (K1 : isUp n up s = false → K (wi h (a + 4) s kNone)) (K2 : isUp n up s = true → K (wi (wi (wi h (a + 4) s (nI L.length)) (a + 3) L.length (nI s)) a 3 (nI (L.length + 1)))) : Ev (d + 1) g g m_P_numberSet 0 [.ref a, .int (nI s)] [] h (asV K) := by
  have h6 := w.1.2
  have hp := p2_le h6
  have hpp := p2_pos n
  refine w_P_numberSet_0 f (S_allPoints f hn h6 fun _ => ?_)
  have e1 := nm_dif (2 ^ n - 1) (by omega) s (by omega)
  unfold m1 at e1
  have hcl : (2 ^ n - 1) &&& (s ^^^ 63) < 2 ^ n := Nat.lt_of_le_of_lt Nat.and_le_left (by omega)
  have hdl := Nat.lt_of_lt_of_le (dsk_lt n up ((2 ^ n - 1) &&& (s ^^^ 63)) n) hp
  rw [e1, nI_clamp (by omega), nI_clamp (by omega), hd _ hcl, nm_and _ hdl s (by omega)]
  refine ⟨vp_in_nI (by omega) (by decide), ?_⟩
  have hal := and64 (b := s) hdl
  refine br_ne (dsk n up ((2 ^ n - 1) &&& (s ^^^ 63)) n &&& s) 0 rfl rfl (fun z => ?_) (fun z => ?_)
  · have hu := (upC_iff w hs).mp z
    rw [mi_ne (show a ≠ a + 4 by omega), hc, nI_clamp (by omega), mi_ne (show a ≠ a + 3 by omega), mi_ne (show a ≠ a + 4 by omega), hc, nI_add]
    exact ⟨vp_in_nI (by omega) (by decide), vp_in_nI (by omega) (by decide), K2 hu⟩
  · have hu : isUp n up s = false := by
      cases e : isUp n up s
      · rfl
      · exact absurd ((upC_iff w hs).mpr e) z
    exact ⟨vp_in_nI (by omega) (by decide), K1 hu⟩
theorem S_findElements (f : is_P h a) (hn : mi h a 0 = nI n) (w : wfP n up) (hd : ∀ t, t < 2 ^ n → mi h (a + 2) t = nI (dsk n up t n)) (hK : ∀ h1, Ext h h1 → same (fun q => q ≠ a ∧ q ≠ a + 3 ∧ q ≠ a + 4) h h1 → mi h1 a 0 = nI n → ELp (mi h1 (a + 3)) (mi h1 (a + 4)) (mi h1 a 3) (elems n up) → (∀ t, t < 2 ^ n → isUp n up t = false → mi h1 (a + 4) t = kNone) → K h1) : Ev (d + 2) g g m_P_findElements 0 [.ref a] [] h (asV K) := by
  have h6 := w.1.2
  have hp := p2_le h6
  have hpp := p2_pos n
  let I : Nat → Nat → AH → Prop := fun c s hh => Ext h hh ∧ same (fun q => q ≠ a ∧ q ≠ a + 3 ∧ q ≠ a + 4) h hh ∧ mi hh a 0 = nI n ∧ ELp (mi hh (a + 3)) (mi hh (a + 4)) (mi hh a 3) (els n up c s) ∧ ∀ t, t ∈ pre n c s → isUp n up t = false → mi hh (a + 4) t = kNone
  refine w_P_findElements_0 f ?_
  refine for_up (σ := AH) (fun c hh => Ev (d + 2) g g m_P_findElements 7 [.ref a, .int (nI c)] [] hh (asV K)) (fun c hh => I c 0 hh) (n + 1) (fun hh hi => ?_) (fun c hh hc hi ih => ?_) 0 _ (Nat.zero_le _) ?_
  · obtain ⟨e, sm, h0, el, nn⟩ := hi
    refine w_P_findElements_7 (f.ext e) (br_lt n (n + 1) h0 rfl (fun _ => hK hh e sm h0 el fun t ht hu => nn t ?_ hu) (fun z => by omega))
    exact (mem_pre (Nat.zero_le _)).mpr ⟨ht, Or.inl (by have := pop_le6 n h6 t ht; omega)⟩
  · refine w_P_findElements_7 (f.ext hi.1) (br_lt n c hi.2.2.1 rfl (fun z => by omega) fun _ => ?_)
    refine for_up (σ := AH) (fun s hh => Ev (d + 2) g g m_P_findElements 17 [.ref a, .int (nI c), .int (nI s)] [] hh (asV K)) (fun s hh => I c s hh) (2 ^ n) (fun hh hi => ?_) (fun s hh hs hi ih2 => ?_) 0 hh (Nat.zero_le _) hi
    · obtain ⟨e, sm, h0, el, nn⟩ := hi
      refine w_P_findElements_17 (f.ext e) (S_allPoints (f.ext e) h0 h6 fun _ => ?_)
      refine br_lt (2 ^ n - 1) (2 ^ n) rfl rfl (fun _ => ?_) (fun z => by omega)
      rw [nI_add]
      refine ih hh ⟨e, sm, h0, ?_, ?_⟩
      · unfold els at el ⊢; rw [← pre_row]; exact el
      · rw [← pre_row]; exact nn
    · obtain ⟨e, sm, h0, el, nn⟩ := hi
      have fe := f.ext e
      refine w_P_findElements_17 fe (S_allPoints fe h0 h6 fun _ => ?_)
      refine br_lt (2 ^ n - 1) s rfl rfl (fun z => by omega) (fun _ => ?_)
      refine S_bitCount (by omega) fun _ => ?_
      have hpl := pop_le6 n h6 s hs
      refine br_ne (pop s) c rfl rfl (fun z => ?_) (fun z => ?_)
      · subst z
        have hlen := els_len (up := up) h6 hs
        have hns : s ∉ pre n (pop s) s := fun hm => by
          have := (mem_pre (by omega)).mp hm
          omega
        have hd' : ∀ t, t < 2 ^ n → mi hh (a + 2) t = nI (dsk n up t n) := fun t ht => ((sm (a + 2) (by omega)).1 t).trans (hd t ht)
        refine S_numberSet (L := els n up (pop s) s) fe h0 w hs hd' (by omega) el.1 (fun hu => ?_) (fun hu => ?_)
        · intro _
          rw [nI_add]
          refine ih2 _ ⟨e.trans (ext_wi _ _ _ _), sm.wi (by omega), by rw [mi_ne (by omega)]; exact h0, ?_, fun t ht hu2 => ?_⟩
          · have e2 : els n up (pop s) (s + 1) = els n up (pop s) s := by unfold els; rw [pre_yes rfl, List.filter_append]; simp [hu]
            rw [e2]
            refine ⟨by rw [mi_ne (by omega)]; exact el.1, fun i hi => by rw [mi_ne (by omega)]; exact el.2.1 i hi, fun t ht => ?_⟩
            rw [mi_nj (fun (z : t = s) => hns (List.mem_filter.mp (z ▸ ht)).1)]
            exact el.2.2 t ht
          · rw [pre_yes rfl] at ht
            rcases List.mem_append.mp ht with h1 | h1
            · rw [mi_nj (fun (z : t = s) => hns (z ▸ h1))]
              exact nn t h1 hu2
            · have : t = s := by simpa using h1
              subst this
              exact mi_eq
        · intro _
          rw [nI_add]
          have hns2 : s ∉ els n up (pop s) s := fun hm => hns (List.mem_filter.mp hm).1
          refine ih2 _ ⟨((e.trans (ext_wi _ _ _ _)).trans (ext_wi _ _ _ _)).trans (ext_wi _ _ _ _), ((sm.wi (by omega)).wi (by omega)).wi (by omega), by rw [mi_nj (by omega), mi_ne (by omega), mi_ne (by omega)]; exact h0, ?_, fun t ht hu2 => ?_⟩
          · have e2 : els n up (pop s) (s + 1) = els n up (pop s) s ++ [s] := by unfold els; rw [pre_yes rfl, List.filter_append]; simp [hu]
            rw [e2]
            have := el.app (bits' := mi (wi (wi (wi hh (a + 4) s (nI (els n up (pop s) s).length)) (a + 3) (els n up (pop s) s).length (nI s)) a 3 (nI ((els n up (pop s) s).length + 1))) (a + 3)) (num' := mi (wi (wi (wi hh (a + 4) s (nI (els n up (pop s) s).length)) (a + 3) (els n up (pop s) s).length (nI s)) a 3 (nI ((els n up (pop s) s).length + 1))) (a + 4)) hns2 (fun i hi => by rw [mi_ne (by omega), mi_nj (by omega), mi_ne (by omega)]) (by rw [mi_ne (by omega), mi_eq]) (fun t ht => by rw [mi_ne (by omega), mi_ne (by omega), mi_nj ht]) (by rw [mi_ne (by omega), mi_ne (by omega), mi_eq])
            rw [mi_eq]
            exact this
          · rw [pre_yes rfl] at ht
            rcases List.mem_append.mp ht with h1 | h1
            · rw [mi_ne (by omega), mi_ne (by omega), mi_nj (fun (z : t = s) => hns (z ▸ h1))]
              exact nn t h1 hu2
            · have : t = s := by simpa using h1
              subst this
              rw [hu] at hu2
              cases hu2
      · rw [nI_add]
        refine ih2 hh ⟨e, sm, h0, ?_, ?_⟩
        · unfold els at el ⊢; rw [pre_no z]; exact el
        · rw [pre_no z]; exact nn
  · refine ⟨ext_wi _ _ _ _, same.rf.wi (by omega), by rw [mi_nj (by omega)]; exact hn, ⟨mi_eq, fun i hi => ?_, fun t ht => ?_⟩, fun t ht => ?_⟩
    · simp [els, pre] at hi
    · simp [els, pre] at ht
    · simp [pre] at ht
theorem S_refresh (f : is_P h a) (o : PO h a n up) (w : wfP n up) (hK : ∀ h1, Ext h h1 → same (fun q => q < a ∨ a + 5 < q) h h1 → PC h1 a n up (fun _ => 0) → K h1) : Ev (d + 3) g g m_P_refresh 0 [.ref a] [] h (asV K) := by
  refine w_P_refresh_0 f (S_findDownSets f o w fun h1 e1 s1 hd1 _ => ?_)
  have o1 := o.keep s1 (by omega) (by omega)
  refine S_findElements (f.ext e1) o1.1 w hd1 fun h2 e2 s2 h20 el nn _ => ?_
  have e12 := e1.trans e2
  refine for_up (σ := AH) (fun v hh => Ev (d + 3) g g m_P_refresh 10 [.ref a, .int (nI v)] [] hh (asV K)) (fun v hh => Ext h2 hh ∧ same (fun q => q ≠ a + 5) h2 hh ∧ ∀ u, u < v → mi hh (a + 5) u = nI 0) 3 (fun hh hi => ?_) (fun v hh hv hi ih => ?_) 0 h2 (Nat.zero_le _) ⟨Ext.rfl', same.rf, fun u hu => by omega⟩
  · obtain ⟨e3, s3, hv⟩ := hi
    refine w_P_refresh_10 (f.ext (e12.trans e3)) (br_le 3 3 rfl rfl (fun _ => ?_) (fun z => by omega))
    refine hK hh (e12.trans e3) (((s1.sub fun q hq => by omega).trans (s2.sub fun q hq => by omega)).trans (s3.sub fun q hq => by omega)) ⟨⟨((s3 a (by omega)).1 0).trans h20, fun x hx => ?_⟩, fun s hs => ?_, ⟨?_, fun i hi => ?_, fun t ht => ?_⟩, fun t ht hu => ?_, hv⟩
    · exact ((s3 _ (by omega)).1 x).trans (((s2 _ (by omega)).1 x).trans (o1.2 x hx))
    · exact ((s3 _ (by omega)).1 s).trans (((s2 _ (by omega)).1 s).trans (hd1 s hs))
    · exact ((s3 a (by omega)).1 3).trans el.1
    · exact ((s3 _ (by omega)).1 i).trans (el.2.1 i hi)
    · exact ((s3 _ (by omega)).1 t).trans (el.2.2 t ht)
    · exact ((s3 _ (by omega)).1 t).trans (nn t ht hu)
  · obtain ⟨e3, s3, hu⟩ := hi
    refine w_P_refresh_10 (f.ext (e12.trans e3)) (br_le 3 v rfl rfl (fun z => by omega) fun _ => ?_)
    rw [nI_add, nI_clamp (by omega)]
    refine ⟨vp_in_nI (by omega) (by decide), ih _ ⟨e3.trans (ext_wi _ _ _ _), s3.wi (by omega), fun u huv => ?_⟩⟩
    by_cases hq : u = v
    · subst hq
      exact mi_eq
    · rw [mi_nj hq]
      exact hu u (by omega)
end PRF

/-! the refresh of a poset's tables again: it makes no cell and writes no reference -/
def EX (h h1 : AH) : Prop := Ext h h1 ∧ h1.1.length = h.1.length ∧ ∀ a i, mr h1 a i = mr h a i
theorem EX.rf {h : AH} : EX h h := ⟨Ext.rfl', rfl, fun _ _ => rfl⟩
theorem EX.trans {h h1 h2 : AH} (a : EX h h1) (b : EX h1 h2) : EX h h2 := ⟨a.1.trans b.1, b.2.1.trans a.2.1, fun x i => (b.2.2 x i).trans (a.2.2 x i)⟩
theorem ex_wi (h : AH) (a i : Nat) (v : Int32) : EX h (wi h a i v) := ⟨ext_wi h a i v, rfl, fun _ _ => rfl⟩
section XRF
variable {d g a n : Nat} {up : Nat → Nat} {h : AH} {K : AH → Prop}
theorem X_findDownSets (f : is_P h a) (o : PO h a n up) (w : wfP n up) (hK : ∀ h1, EX h h1 → same (fun q => q ≠ a + 2) h h1 → (∀ s, s < 2 ^ n → mi h1 (a + 2) s = nI (dsk n up s n)) → K h1) : Ev (d + 2) g g m_P_findDownSets 0 [.ref a] [] h (asV K) := by
  have h6 := w.1.2
  refine w_P_findDownSets_0 f ⟨vp_in_nI (by decide) (by decide), ?_⟩
  refine for_up (σ := AH) (fun x hh => Ev (d + 2) g g m_P_findDownSets 9 [.ref a, .int (nI x)] [] hh (asV K)) (fun x hh => EX h hh ∧ same (fun q => q ≠ a + 2) h hh ∧ ∀ s, s < 2 ^ x → mi hh (a + 2) s = nI (dsk n up s x)) n (fun hh hi => ?_) (fun x hh hx hi ih => ?_) 0 _ (Nat.zero_le _) ?_
  · obtain ⟨e, sm, hd⟩ := hi
    exact w_P_findDownSets_9 (f.ext (e).1) (br_le n n (o.keep sm (by omega) (by omega)).1 rfl (fun _ => hK hh e sm hd) (fun z => by omega))
  · obtain ⟨e, sm, hd⟩ := hi
    have o1 := o.keep sm (by omega) (by omega)
    refine w_P_findDownSets_9 (f.ext (e).1) (br_le n x o1.1 rfl (fun z => by omega) fun _ => ?_)
    refine S_pointsBelow (f.ext (e).1) o1 w hx fun _ => ?_
    rw [nm_bit1 x (by omega)]
    have hxp : 2 ^ x ≤ 64 := p2_le (by omega)
    have hxp2 : 2 ^ (x + 1) ≤ 64 := p2_le (by omega)
    have hx2 : 2 ^ (x + 1) = 2 ^ x + 2 ^ x := by rw [Nat.pow_succ]; omega
    have hdl : dnk up x n < 64 := Nat.lt_of_lt_of_le (dnk_lt up x n) (p2_le h6)
    refine for_up (σ := AH) (fun s hh => Ev (d + 2) g g m_P_findDownSets 30 [.ref a, .int (nI x), .int (nI (dnk up x n)), .int (nI (2 ^ x)), .int (nI s)] [] hh (asV K)) (fun s hh => EX h hh ∧ same (fun q => q ≠ a + 2) h hh ∧ (∀ t, t < 2 ^ x → mi hh (a + 2) t = nI (dsk n up t x)) ∧ ∀ t, t < s → mi hh (a + 2) (2 ^ x + t) = nI (dsk n up t x ||| dnk up x n)) (2 ^ x) (fun hh hi => ?_) (fun s hh hs hi ih2 => ?_) 0 hh (Nat.zero_le _) ⟨e, sm, hd, fun t ht => by omega⟩
    · obtain ⟨e, sm, hd, hd2⟩ := hi
      refine w_P_findDownSets_30 (f.ext (e).1) (br_le (2 ^ x) (2 ^ x) rfl rfl (fun _ => ?_) (fun z => by omega))
      rw [nI_add]
      refine ih hh ⟨e, sm, fun s hs => ?_⟩
      by_cases hlt : s < 2 ^ x
      · rw [dsk_lo n up hlt]
        exact hd s hlt
      · have e1 : s = 2 ^ x + (s - 2 ^ x) := by omega
        rw [e1, dsk_hi n up (by omega)]
        exact hd2 _ (by omega)
    · obtain ⟨e, sm, hd, hd2⟩ := hi
      refine w_P_findDownSets_30 (f.ext (e).1) (br_le (2 ^ x) s rfl rfl (fun z => by omega) fun _ => ?_)
      have e1 : nI s ||| nI (2 ^ x) = nI (2 ^ x + s) := by rw [nm_or s (by omega) (2 ^ x) (by omega), or_add hs]
      rw [e1, nI_clamp (by omega), nI_clamp (by omega), nI_add]
      refine ⟨vp_in_nI (by omega) (by decide), vp_in_nI (by omega) (by decide), ih2 _ ⟨e.trans (ex_wi _ _ _ _), sm.wi (by omega), fun t ht => ?_, fun t ht => ?_⟩⟩
      · rw [mi_nj (by omega)]
        exact hd t ht
      · by_cases hts : t = s
        · subst hts
          rw [mi_eq, hd t hs, nm_or _ (Nat.lt_of_lt_of_le (dsk_lt n up t x) (p2_le h6)) _ hdl]
        · rw [mi_nj (by omega)]
          exact hd2 t (by omega)
  · refine ⟨ex_wi _ _ _ _, same.rf.wi (by omega), fun s hs => ?_⟩
    have : s = 0 := by omega
    subst this
    exact mi_eq
theorem X_findElements (f : is_P h a) (hn : mi h a 0 = nI n) (w : wfP n up) (hd : ∀ t, t < 2 ^ n → mi h (a + 2) t = nI (dsk n up t n)) (hK : ∀ h1, EX h h1 → same (fun q => q ≠ a ∧ q ≠ a + 3 ∧ q ≠ a + 4) h h1 → mi h1 a 0 = nI n → ELp (mi h1 (a + 3)) (mi h1 (a + 4)) (mi h1 a 3) (elems n up) → (∀ t, t < 2 ^ n → isUp n up t = false → mi h1 (a + 4) t = kNone) → K h1) : Ev (d + 2) g g m_P_findElements 0 [.ref a] [] h (asV K) := by
  have h6 := w.1.2
  have hp := p2_le h6
  have hpp := p2_pos n
  let I : Nat → Nat → AH → Prop := fun c s hh => EX h hh ∧ same (fun q => q ≠ a ∧ q ≠ a + 3 ∧ q ≠ a + 4) h hh ∧ mi hh a 0 = nI n ∧ ELp (mi hh (a + 3)) (mi hh (a + 4)) (mi hh a 3) (els n up c s) ∧ ∀ t, t ∈ pre n c s → isUp n up t = false → mi hh (a + 4) t = kNone
  refine w_P_findElements_0 f ?_
  refine for_up (σ := AH) (fun c hh => Ev (d + 2) g g m_P_findElements 7 [.ref a, .int (nI c)] [] hh (asV K)) (fun c hh => I c 0 hh) (n + 1) (fun hh hi => ?_) (fun c hh hc hi ih => ?_) 0 _ (Nat.zero_le _) ?_
  · obtain ⟨e, sm, h0, el, nn⟩ := hi
    refine w_P_findElements_7 (f.ext (e).1) (br_lt n (n + 1) h0 rfl (fun _ => hK hh e sm h0 el fun t ht hu => nn t ?_ hu) (fun z => by omega))
    exact (mem_pre (Nat.zero_le _)).mpr ⟨ht, Or.inl (by have := pop_le6 n h6 t ht; omega)⟩
  · refine w_P_findElements_7 (f.ext (hi.1).1) (br_lt n c hi.2.2.1 rfl (fun z => by omega) fun _ => ?_)
    refine for_up (σ := AH) (fun s hh => Ev (d + 2) g g m_P_findElements 17 [.ref a, .int (nI c), .int (nI s)] [] hh (asV K)) (fun s hh => I c s hh) (2 ^ n) (fun hh hi => ?_) (fun s hh hs hi ih2 => ?_) 0 hh (Nat.zero_le _) hi
    · obtain ⟨e, sm, h0, el, nn⟩ := hi
      refine w_P_findElements_17 (f.ext (e).1) (S_allPoints (f.ext (e).1) h0 h6 fun _ => ?_)
      refine br_lt (2 ^ n - 1) (2 ^ n) rfl rfl (fun _ => ?_) (fun z => by omega)
      rw [nI_add]
      refine ih hh ⟨e, sm, h0, ?_, ?_⟩
      · unfold els at el ⊢; rw [← pre_row]; exact el
      · rw [← pre_row]; exact nn
    · obtain ⟨e, sm, h0, el, nn⟩ := hi
      have fe := f.ext (e).1
      refine w_P_findElements_17 fe (S_allPoints fe h0 h6 fun _ => ?_)
      refine br_lt (2 ^ n - 1) s rfl rfl (fun z => by omega) (fun _ => ?_)
      refine S_bitCount (by omega) fun _ => ?_
      have hpl := pop_le6 n h6 s hs
      refine br_ne (pop s) c rfl rfl (fun z => ?_) (fun z => ?_)
      · subst z
        have hlen := els_len (up := up) h6 hs
        have hns : s ∉ pre n (pop s) s := fun hm => by
          have := (mem_pre (by omega)).mp hm
          omega
        have hd' : ∀ t, t < 2 ^ n → mi hh (a + 2) t = nI (dsk n up t n) := fun t ht => ((sm (a + 2) (by omega)).1 t).trans (hd t ht)
        refine S_numberSet (L := els n up (pop s) s) fe h0 w hs hd' (by omega) el.1 (fun hu => ?_) (fun hu => ?_)
        · intro _
          rw [nI_add]
          refine ih2 _ ⟨e.trans (ex_wi _ _ _ _), sm.wi (by omega), by rw [mi_ne (by omega)]; exact h0, ?_, fun t ht hu2 => ?_⟩
          · have e2 : els n up (pop s) (s + 1) = els n up (pop s) s := by unfold els; rw [pre_yes rfl, List.filter_append]; simp [hu]
            rw [e2]
            refine ⟨by rw [mi_ne (by omega)]; exact el.1, fun i hi => by rw [mi_ne (by omega)]; exact el.2.1 i hi, fun t ht => ?_⟩
            rw [mi_nj (fun (z : t = s) => hns (List.mem_filter.mp (z ▸ ht)).1)]
            exact el.2.2 t ht
          · rw [pre_yes rfl] at ht
            rcases List.mem_append.mp ht with h1 | h1
            · rw [mi_nj (fun (z : t = s) => hns (z ▸ h1))]
              exact nn t h1 hu2
            · have : t = s := by simpa using h1
              subst this
              exact mi_eq
        · intro _
          rw [nI_add]
          have hns2 : s ∉ els n up (pop s) s := fun hm => hns (List.mem_filter.mp hm).1
          refine ih2 _ ⟨((e.trans (ex_wi _ _ _ _)).trans (ex_wi _ _ _ _)).trans (ex_wi _ _ _ _), ((sm.wi (by omega)).wi (by omega)).wi (by omega), by rw [mi_nj (by omega), mi_ne (by omega), mi_ne (by omega)]; exact h0, ?_, fun t ht hu2 => ?_⟩
          · have e2 : els n up (pop s) (s + 1) = els n up (pop s) s ++ [s] := by unfold els; rw [pre_yes rfl, List.filter_append]; simp [hu]
            rw [e2]
            have := el.app (bits' := mi (wi (wi (wi hh (a + 4) s (nI (els n up (pop s) s).length)) (a + 3) (els n up (pop s) s).length (nI s)) a 3 (nI ((els n up (pop s) s).length + 1))) (a + 3)) (num' := mi (wi (wi (wi hh (a + 4) s (nI (els n up (pop s) s).length)) (a + 3) (els n up (pop s) s).length (nI s)) a 3 (nI ((els n up (pop s) s).length + 1))) (a + 4)) hns2 (fun i hi => by rw [mi_ne (by omega), mi_nj (by omega), mi_ne (by omega)]) (by rw [mi_ne (by omega), mi_eq]) (fun t ht => by rw [mi_ne (by omega), mi_ne (by omega), mi_nj ht]) (by rw [mi_ne (by omega), mi_ne (by omega), mi_eq])
            rw [mi_eq]
            exact this
          · rw [pre_yes rfl] at ht
            rcases List.mem_append.mp ht with h1 | h1
            · rw [mi_ne (by omega), mi_ne (by omega), mi_nj (fun (z : t = s) => hns (z ▸ h1))]
              exact nn t h1 hu2
            · have : t = s := by simpa using h1
              subst this
              rw [hu] at hu2
              cases hu2
      · rw [nI_add]
        refine ih2 hh ⟨e, sm, h0, ?_, ?_⟩
        · unfold els at el ⊢; rw [pre_no z]; exact el
        · rw [pre_no z]; exact nn
  · refine ⟨ex_wi _ _ _ _, same.rf.wi (by omega), by rw [mi_nj (by omega)]; exact hn, ⟨mi_eq, fun i hi => ?_, fun t ht => ?_⟩, fun t ht => ?_⟩
    · simp [els, pre] at hi
    · simp [els, pre] at ht
    · simp [pre] at ht
theorem X_refresh (f : is_P h a) (o : PO h a n up) (w : wfP n up) (hK : ∀ h1, EX h h1 → same (fun q => q < a ∨ a + 5 < q) h h1 → PC h1 a n up (fun _ => 0) → K h1) : Ev (d + 3) g g m_P_refresh 0 [.ref a] [] h (asV K) := by
  refine w_P_refresh_0 f (X_findDownSets f o w fun h1 e1 s1 hd1 _ => ?_)
  have o1 := o.keep s1 (by omega) (by omega)
  refine X_findElements (f.ext (e1).1) o1.1 w hd1 fun h2 e2 s2 h20 el nn _ => ?_
  have e12 := e1.trans e2
  refine for_up (σ := AH) (fun v hh => Ev (d + 3) g g m_P_refresh 10 [.ref a, .int (nI v)] [] hh (asV K)) (fun v hh => EX h2 hh ∧ same (fun q => q ≠ a + 5) h2 hh ∧ ∀ u, u < v → mi hh (a + 5) u = nI 0) 3 (fun hh hi => ?_) (fun v hh hv hi ih => ?_) 0 h2 (Nat.zero_le _) ⟨EX.rf, same.rf, fun u hu => by omega⟩
  · obtain ⟨e3, s3, hv⟩ := hi
    refine w_P_refresh_10 (f.ext ((e12.trans e3)).1) (br_le 3 3 rfl rfl (fun _ => ?_) (fun z => by omega))
    refine hK hh (e12.trans e3) (((s1.sub fun q hq => by omega).trans (s2.sub fun q hq => by omega)).trans (s3.sub fun q hq => by omega)) ⟨⟨((s3 a (by omega)).1 0).trans h20, fun x hx => ?_⟩, fun s hs => ?_, ⟨?_, fun i hi => ?_, fun t ht => ?_⟩, fun t ht hu => ?_, hv⟩
    · exact ((s3 _ (by omega)).1 x).trans (((s2 _ (by omega)).1 x).trans (o1.2 x hx))
    · exact ((s3 _ (by omega)).1 s).trans (((s2 _ (by omega)).1 s).trans (hd1 s hs))
    · exact ((s3 a (by omega)).1 3).trans el.1
    · exact ((s3 _ (by omega)).1 i).trans (el.2.1 i hi)
    · exact ((s3 _ (by omega)).1 t).trans (el.2.2 t ht)
    · exact ((s3 _ (by omega)).1 t).trans (nn t ht hu)
  · obtain ⟨e3, s3, hu⟩ := hi
    refine w_P_refresh_10 (f.ext ((e12.trans e3)).1) (br_le 3 v rfl rfl (fun z => by omega) fun _ => ?_)
    rw [nI_add, nI_clamp (by omega)]
    refine ⟨vp_in_nI (by omega) (by decide), ih _ ⟨e3.trans (ex_wi _ _ _ _), s3.wi (by omega), fun u huv => ?_⟩⟩
    by_cases hq : u = v
    · subst hq
      exact mi_eq
    · rw [mi_nj hq]
      exact hu u (by omega)
end XRF

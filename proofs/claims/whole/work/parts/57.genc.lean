/-! generate: the class -/
def mono (c c2 : Nat → Nat) : Prop := ∀ u, 0 < c u → 0 < c2 u ∧ c2 u ≤ c u
theorem mono.rf {c : Nat → Nat} : mono c c := fun _ h => ⟨h, Nat.le_refl _⟩
theorem mono.trans {c c2 c3 : Nat → Nat} (a : mono c c2) (b : mono c2 c3) : mono c c3 := fun u h => by
  have h1 := a u h
  have h2 := b u h1.1
  omega
def ofr (c : Nat → Nat) (e v : Nat) : Nat → Nat := if c e = 0 ∨ v < c e then upd1 c e v else c
section GENC
variable {n : Nat} {up : Nat → Nat} {G : List Nat} {c cs : Nat → Nat} {L : List Nat} {i : Nat}
theorem ofr_mono {e v : Nat} (h0 : 0 < v) : mono c (ofr c e v) ∧ 0 < ofr c e v e ∧ ofr c e v e ≤ v ∧ (∀ u, ofr c e v u = c u ∨ (u = e ∧ ofr c e v u = v ∧ (c u = 0 ∨ v < c u))) := by
  unfold ofr
  by_cases q : c e = 0 ∨ v < c e
  · rw [if_pos q]
    refine ⟨fun u hu => ?_, by rw [upd1_e]; exact h0, by rw [upd1_e]; exact Nat.le_refl _, fun u => ?_⟩
    · by_cases q2 : u = e
      · subst q2; rw [upd1_e]; omega
      · rw [upd1_n q2]; omega
    · by_cases q2 : u = e
      · subst q2; right; rw [upd1_e]; exact ⟨rfl, rfl, q⟩
      · left; rw [upd1_n q2]
  · rw [if_neg q]
    exact ⟨mono.rf, by omega, by omega, fun u => Or.inl rfl⟩
/-- in a round: the settled keep their costs, all others cost no less than the last settled -/
def GD (n : Nat) (up : Nat → Nat) (G : List Nat) (cs : Nat → Nat) (L : List Nat) (i : Nat) (c : Nat → Nat) : Prop := INV n up G c ∧ (∀ u, u ∈ L → c u = cs u) ∧ ∀ u, u < (elems n up).length → u ∉ L → 0 < c u → cs i ≤ c u
theorem GD.step (w : wfP n up) (A : GD n up G cs L i c) (hL : ∀ u, u ∈ L → u < (elems n up).length ∧ 0 < cs u ∧ cs u ≤ cs i) {op x y : Nat} (ho : op < 3) (hx : x ∈ L) (hy : y ∈ L) (hi : cs i ≤ cs x + cs y) : GD n up G cs L i (ofr c (rsN n up op x y) (1 + cs x + cs y)) := by
  obtain ⟨J, st, od⟩ := A
  have lx := hL x hx
  have ly := hL y hy
  have o := ofr_mono (c := c) (e := rsN n up op x y) (v := 1 + cs x + cs y) (by omega)
  refine ⟨?_, fun u hu => ?_, fun u hu hn hp => ?_⟩
  · unfold ofr
    by_cases q : c (rsN n up op x y) = 0 ∨ 1 + cs x + cs y < c (rsN n up op x y)
    · rw [if_pos q]
      have e1 := st x hx
      have e2 := st y hy
      rw [← e1, ← e2] at q ⊢
      exact J.upd w ho lx.1 ly.1 (by omega) (by omega) q
    · rw [if_neg q]; exact J
  · rcases o.2.2.2 u with q | ⟨q1, q2, q3⟩
    · rw [q]; exact st u hu
    · have := hL u hu
      have := st u hu
      omega
  · rcases o.2.2.2 u with q | ⟨q1, q2, q3⟩
    · rw [q] at hp ⊢; exact od u hu hn hp
    · rw [q2]; omega
theorem clo_mono {c c2 : Nat → Nat} {op x y : Nat} (m : mono c c2) (hx : c2 x = c x) (hy : c2 y = c y) (h : clo n up c op x y) : clo n up c2 op x y := fun px py => by
  rw [hx] at px ⊢
  rw [hy] at py ⊢
  have h1 := h px py
  have h2 := m _ h1.1
  omega
theorem ck_full {P : Nat → Bool} : ∀ N, ck P N = N → ∀ e, e < N → P e = true
  | 0, _, e, he => by omega
  | N + 1, h, e, he => by
    have l := ck_le P N
    have h : ck P N + (bif P N then 1 else 0) = N + 1 := h
    cases q : P N with
    | false => rw [q] at h; simp at h; omega
    | true =>
      rw [q] at h
      simp at h
      by_cases z : e = N
      · subst z; exact q
      · exact ck_full N h e (by omega)
end GENC
section GENH
variable {d g j n : Nat} {up val c : Nat → Nat} {G : List Nat} {h : AH} {Q : AH → Prop}
/-- what the class's searches need of the heap -/
def GCH (h : AH) (b n : Nat) (up val : Nat → Nat) : Prop := is_A h A_sub ∧ is_P h b ∧ PC h b n up val ∧ mi h A_sub 0 = nI (elems n up).length
theorem GCH.keep {b : Nat} {h1 : AH} (A : GCH h b n up val) (hb : 16 < b) (e : Ext h h1) (s : sm (fun q z => ¬ (q = 10 ∧ z ≠ 0) ∧ ¬ (11 ≤ q ∧ q ≤ 16)) h h1) : GCH h1 b n up val := ⟨A.1.ext e, A.2.1.ext e, A.2.2.1.keep s fun q j h1 h2 => ⟨fun z => by omega, by omega⟩, (s _ _ ⟨fun z => z.2 rfl, by decide⟩).1.trans A.2.2.2⟩
theorem S_offer {e v : Nat} (f : is_A h A_sub) (h64 : (elems n up).length ≤ 64) (he : e < (elems n up).length) (hc : ∀ e, e < (elems n up).length → ml h (A_sub + 1) e = lN (c e)) (cb : c e < 2 ^ 60) (vb : v < 2 ^ 62) (hQ2 : ∀ h1, Ext h h1 → sm (fun q _ => q ≠ 11) h h1 → (∀ u, u < (elems n up).length → ml h1 (A_sub + 1) u = lN (ofr c e v u)) → Q h1) : Ev d g g m_A_offer 0 [.ref A_sub, .int (nI e), .long (lN v), unk] [] h (asV Q) := by
  have ve : vp_in (nI e) 64 := vp_in_nI (by omega) (by decide)
  have wr : (c e = 0 ∨ v < c e) → Q (wl h (A_sub + 1) e (lN v)) := fun q => hQ2 _ (ext_wl _ _ _ _) (sm.rf.wl (fun z => z rfl)) fun u hu => by
    unfold ofr
    rw [if_pos q, ml_wl]
    by_cases q2 : u = e
    · rw [if_pos ⟨rfl, q2⟩, q2, upd1_e]
    · rw [if_neg (fun z => q2 z.2), upd1_n q2]; exact hc u hu
  refine w_A_offer_0 f ⟨fun z => absurd z (nI_nl (by omega)), fun _ => ?_⟩
  rw [nI_clamp (by omega), hc e he, cL_N]
  refine ⟨ve, bl_eq (by omega) (by decide) (fun z => ⟨ve, wr (Or.inl z)⟩) (fun z => ⟨ve, bl_ge (by omega) (by omega) (fun z2 => ?_) (fun z2 => ⟨ve, wr (Or.inr z2)⟩)⟩)⟩
  refine hQ2 h Ext.rfl' sm.rf fun u hu => ?_
  unfold ofr
  rw [if_neg (by omega)]
  exact hc u hu
theorem S_res {b op x y : Nat} {K : Int32 → AH → Prop} (A : GCH h b n up val) (w : wfP n up) (ho : op < 3) (hx : x < (elems n up).length) (hy : y < (elems n up).length) (hK : K (nI (rsN n up op x y)) h) : Ev (d + 2) g g m_P_resultOf 0 [.ref b, .int (nI op), .int (nI x), .int (nI y)] [] h (asI K) := S_resultOf A.2.1 A.2.2.1 w ho hx hy hK
theorem S_offerAll {b i y : Nat} {cs : Nat → Nat} {L : List Nat} (hb : 16 < b) (A0 : GCH h b n up val) (w : wfP n up) (D : GD n up G cs L i c) (hL : ∀ u, u ∈ L → u < (elems n up).length ∧ 0 < cs u ∧ cs u ≤ cs i) (hi : i ∈ L) (hy : y ∈ L) (hc : ∀ e, e < (elems n up).length → ml h (A_sub + 1) e = lN (c e)) (hQ : ∀ c2 h1, Ext h h1 → sm (fun q _ => q ≠ 11) h h1 → (∀ e, e < (elems n up).length → ml h1 (A_sub + 1) e = lN (c2 e)) → GD n up G cs L i c2 → mono c c2 → (∀ op, op < 3 → clo n up c2 op i y ∧ clo n up c2 op y i) → Q h1) : Ev (d + 3) g g m_A_offerAll 0 [.ref A_sub, .ref b, .int (nI i), .int (nI y)] [] h (asV Q) := by
  have h6 := w.1.2
  have hl := elems_len (up := up) h6
  have li := hL i hi
  have ly := hL y hy
  have ci := D.2.1 i hi
  have cy := D.2.1 y hy
  have bi := D.1.lt hl i li.1
  have by' := D.1.lt hl y ly.1
  have kA : ∀ {hh}, Ext h hh → sm (fun q _ => q ≠ 11) h hh → GCH hh b n up val := fun e s => A0.keep hb e (s.sub fun q z hq => by omega)
  have comm : 1 + cs y + cs i = 1 + cs i + cs y := by omega
  refine w_A_offerAll_0 A0.1 A0.2.1 ⟨vp_in_nI (by omega) (by decide), vp_in_nI (by omega) (by decide), ?_⟩
  rw [nI_clamp (n := i) (by omega), nI_clamp (n := y) (by omega), hc i li.1, hc y ly.1, ci, cy, cL_N, lN_add, lN_add]
  have vb : 1 + cs i + cs y < 2 ^ 62 := by omega
  -- the four offers
  refine S_res A0 w (by decide) li.1 ly.1 fun _ => ?_
  have e0 := rs_lt w (op := 0) li.1 ly.1
  refine S_offer A0.1 hl e0 hc (D.1.lt hl _ e0) vb fun h1 x1 s1 hc1 _ => ?_
  have D1 := D.step w hL (op := 0) (by decide) hi hy (by omega)
  have M1 := ofr_mono (c := c) (e := rsN n up 0 i y) (v := 1 + cs i + cs y) (by omega)
  generalize ofr c (rsN n up 0 i y) (1 + cs i + cs y) = c1 at *
  have A1 := kA x1 s1
  refine S_res A1 w (by decide) li.1 ly.1 fun _ => ?_
  have e1 := rs_lt w (op := 1) li.1 ly.1
  refine S_offer A1.1 hl e1 hc1 (D1.1.lt hl _ e1) vb fun h2 x2 s2 hc2 _ => ?_
  have D2 := D1.step w hL (op := 1) (by decide) hi hy (by omega)
  have M2 := ofr_mono (c := c1) (e := rsN n up 1 i y) (v := 1 + cs i + cs y) (by omega)
  generalize ofr c1 (rsN n up 1 i y) (1 + cs i + cs y) = c2 at *
  have A2 := kA (x1.trans x2) (s1.trans s2)
  refine S_res A2 w (by decide) li.1 ly.1 fun _ => ?_
  have e2 := rs_lt w (op := 2) li.1 ly.1
  refine S_offer A2.1 hl e2 hc2 (D2.1.lt hl _ e2) vb fun h3 x3 s3 hc3 _ => ?_
  have D3 := D2.step w hL (op := 2) (by decide) hi hy (by omega)
  have M3 := ofr_mono (c := c2) (e := rsN n up 2 i y) (v := 1 + cs i + cs y) (by omega)
  generalize ofr c2 (rsN n up 2 i y) (1 + cs i + cs y) = c3 at *
  have A3 := kA ((x1.trans x2).trans x3) ((s1.trans s2).trans s3)
  refine S_res A3 w (by decide) ly.1 li.1 fun _ => ?_
  have e3 := rs_lt w (op := 2) ly.1 li.1
  refine S_offer A3.1 hl e3 hc3 (D3.1.lt hl _ e3) vb fun h4 x4 s4 hc4 _ => ?_
  have D4 := D3.step w hL (op := 2) (by decide) hy hi (by omega)
  rw [comm] at D4
  have M4 := ofr_mono (c := c3) (e := rsN n up 2 y i) (v := 1 + cs i + cs y) (by omega)
  generalize ofr c3 (rsN n up 2 y i) (1 + cs i + cs y) = c4 at *
  refine hQ c4 h4 (((x1.trans x2).trans x3).trans x4) (((s1.trans s2).trans s3).trans s4) hc4 D4 (((M1.1.trans M2.1).trans M3.1).trans M4.1) fun op ho => ?_
  have ci4 := D4.2.1 i hi
  have cy4 := D4.2.1 y hy
  have r0 := ((M2.1.trans M3.1).trans M4.1) _ M1.2.1
  have r1 := (M3.1.trans M4.1) _ M2.2.1
  have r2 := M4.1 _ M3.2.1
  have b0 := M1.2.2.1
  have b1 := M2.2.2.1
  have b2 := M3.2.2.1
  have b3 := M4.2.2.1
  have p3 := M4.2.1
  match op, ho with
  | 0, _ =>
    refine ⟨fun _ _ => by rw [ci4, cy4]; omega, fun _ _ => ?_⟩
    rw [rs_comm (n := n) (up := up) (op := 0) (x := y) (y := i) (by decide), ci4, cy4]
    omega
  | 1, _ =>
    refine ⟨fun _ _ => by rw [ci4, cy4]; omega, fun _ _ => ?_⟩
    rw [rs_comm (n := n) (up := up) (op := 1) (x := y) (y := i) (by decide), ci4, cy4]
    omega
  | 2, _ => exact ⟨fun _ _ => by rw [ci4, cy4]; omega, fun _ _ => by rw [ci4, cy4]; omega⟩
def bv (o : Option Nat) : Int32 := match o with
  | none => m1
  | some k => nI k
theorem S_cheapest {L : List Nat} {K : Int32 → AH → Prop} (f : is_A h A_sub) (h0 : mi h A_sub 0 = nI (elems n up).length) (h64 : (elems n up).length ≤ 64) (hc : ∀ e, e < (elems n up).length → ml h (A_sub + 1) e = lN (c e) ∧ c e < 2 ^ 60) (hf : ∀ e, e < (elems n up).length → mi h (A_sub + 6) e = nI (if e ∈ L then 1 else 0)) (K1 : (∀ u, u < (elems n up).length → u ∉ L → c u = 0) → K m1 h) (K2 : ∀ b, b < (elems n up).length → b ∉ L → 0 < c b → (∀ u, u < (elems n up).length → u ∉ L → 0 < c u → c b ≤ c u) → K (nI b) h) : Ev d g g m_A_cheapestLeft 0 [.ref A_sub] [] h (asI K) := by
  refine w_A_cheapestLeft_0 f ?_
  refine for_up (σ := Option Nat) (fun k o => Ev d g g m_A_cheapestLeft 4 [.ref A_sub, .int (bv o), .int (nI k)] [] h (asI K)) (fun k o => match o with
    | none => ∀ u, u < k → u ∉ L → c u = 0
    | some b => b < k ∧ b ∉ L ∧ 0 < c b ∧ ∀ u, u < k → u ∉ L → 0 < c u → c b ≤ c u) (elems n up).length (fun o hI => ?_) (fun k o hk hI ih => ?_) 0 none (Nat.zero_le _) (fun u hu => by omega)
  · refine w_A_cheapestLeft_4 f ?_
    rw [h0]
    refine br_le _ _ rfl rfl (fun _ => ?_) (fun z => by omega)
    cases o with
    | none => exact K1 hI
    | some b => exact K2 b hI.1 hI.2.1 hI.2.2.1 hI.2.2.2
  have ck := hc k hk
  have v64 : vp_in (nI k) 64 := vp_in_nI (by omega) (by decide)
  refine w_A_cheapestLeft_4 f ?_
  rw [h0, nI_clamp (n := k) (by omega), hf k hk, ck.1, cL_N, nI_add k 1]
  -- nothing new here
  have skip : (k ∉ L → c k = 0 ∨ ∃ b, o = some b ∧ c b ≤ c k) → Ev d g g m_A_cheapestLeft 4 [.ref A_sub, .int (bv o), .int (nI (k + 1))] [] h (asI K) := fun q => by
    refine ih o ?_
    cases o with
    | none =>
      intro u hu hn
      by_cases z : u = k
      · subst z
        rcases q hn with q | ⟨b, q, _⟩
        · exact q
        · cases q
      · exact hI u (by omega) hn
    | some b =>
      refine ⟨by have := hI.1; omega, hI.2.1, hI.2.2.1, fun u hu hn hp => ?_⟩
      by_cases z : u = k
      · subst z
        rcases q hn with q | ⟨b', q, q2⟩
        · omega
        · cases q; exact q2
      · exact hI.2.2.2 u (by omega) hn hp
  refine br_le _ k rfl rfl (fun z => by omega) (fun _ => ⟨v64, ?_⟩)
  by_cases kL : k ∈ L
  · rw [if_pos kL]
    exact ⟨fun _ => skip fun z => absurd kL z, fun z => absurd z (by decide)⟩
  rw [if_neg kL]
  refine ⟨fun z => absurd rfl z, fun _ => ⟨v64, bl_le (by omega) (by decide) (fun z => skip fun _ => Or.inl (by omega)) (fun pk => ?_)⟩⟩
  cases o with
  | none =>
    refine ⟨fun _ => ih (some k) ⟨by omega, kL, pk, fun u hu hn hp => ?_⟩, fun z => absurd m1_lt z⟩
    by_cases z : u = k
    · subst z; exact Nat.le_refl _
    · have := hI u (by omega) hn; omega
  | some b =>
    have cb := hc b (by have := hI.1; omega)
    have hb := hI.1
    show (nI b < 0 → _) ∧ (¬ nI b < 0 → vp_in (nI k) 64 ∧ vp_in (nI b) 64 ∧ (0 ≤ lg_cmp (lN (c k)) (ml h (A_sub + 1) (nI b).toNatClampNeg) → _) ∧ (¬ 0 ≤ lg_cmp (lN (c k)) (ml h (A_sub + 1) (nI b).toNatClampNeg) → _))
    refine ⟨fun z => absurd z (nI_nl (by omega)), fun _ => ⟨v64, vp_in_nI (by omega) (by decide), ?_⟩⟩
    rw [nI_clamp (n := b) (by omega), cb.1]
    refine bl_ge (by omega) (by omega) (fun z => skip fun _ => Or.inr ⟨b, rfl, z⟩) (fun z => ih (some k) ⟨by omega, kL, pk, fun u hu hn hp => ?_⟩)
    by_cases z2 : u = k
    · subst z2; exact Nat.le_refl _
    · have := hI.2.2.2 u (by omega) hn hp
      omega
end GENH

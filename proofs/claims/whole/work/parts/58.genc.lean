/-! generate: the class's rounds and steps -/
section RNDS
variable {d g n : Nat} {up val c : Nat → Nat} {G : List Nat} {h : AH} {Q : AH → Prop}
def RND (h : AH) (n : Nat) (up : Nat → Nat) (G : List Nat) (k : Nat) (s : List Nat × (Nat → Nat) × AH) : Prop :=
  Ext h s.2.2 ∧ sm (fun q z => ¬ (q = 10 ∧ z = 5) ∧ q ≠ 11 ∧ q ≠ 15 ∧ q ≠ 16) h s.2.2 ∧ (∀ e, e < (elems n up).length → ml s.2.2 (A_sub + 1) e = lN (s.2.1 e)) ∧ INV n up G s.2.1 ∧ s.1.length = k ∧ (∀ u, u ∈ s.1 → u < (elems n up).length ∧ 0 < s.2.1 u) ∧ (∀ e u, e ∈ s.1 → u < (elems n up).length → u ∉ s.1 → 0 < s.2.1 u → s.2.1 e ≤ s.2.1 u) ∧ (∀ op x y, op < 3 → x ∈ s.1 → y ∈ s.1 → clo n up s.2.1 op x y) ∧ (∀ e, e < (elems n up).length → mi s.2.2 (A_sub + 6) e = nI (if e ∈ s.1 then 1 else 0)) ∧ (∀ j, j < s.1.length → mi s.2.2 (A_sub + 5) j = nI (s.1.getD j 0)) ∧ mi s.2.2 A_sub 5 = nI k ∧ ck (fun e => decide (e ∈ s.1)) (elems n up).length = k
theorem S_findCosts {b : Nat} (hb : 16 < b) (A0 : GCH h b n up val) (w : wfP n up) (J0 : INV n up G c) (hc0 : ∀ e, e < (elems n up).length → ml h (A_sub + 1) e = lN (c e)) (hf0 : ∀ e, e < (elems n up).length → mi h (A_sub + 6) e = nI 0) (h50 : mi h A_sub 5 = nI 0) (hQ : ∀ c2 h1, Ext h h1 → sm (fun q z => ¬ (q = 10 ∧ z = 5) ∧ q ≠ 11 ∧ q ≠ 15 ∧ q ≠ 16) h h1 → (∀ e, e < (elems n up).length → ml h1 (A_sub + 1) e = lN (c2 e)) → SOL n up G c2 → mi h1 A_sub 5 = nI (ck (fun e => decide (0 < c2 e)) (elems n up).length) → Q h1) : Ev (d + 4) g g m_A_findCosts 0 [.ref A_sub, .ref b] [] h (asV Q) := by
  have h6 := w.1.2
  have hl := elems_len (up := up) h6
  have kA : ∀ {hh}, Ext h hh → sm (fun q z => ¬ (q = 10 ∧ z = 5) ∧ q ≠ 11 ∧ q ≠ 15 ∧ q ≠ 16) h hh → GCH hh b n up val := fun e s => A0.keep hb e (s.sub fun q z hq => ⟨fun y => hq.1 ⟨y.1, by omega⟩, by omega, by omega, by omega⟩)
  -- the end
  have fin : ∀ k s, RND h n up G k s → (∀ u, u < (elems n up).length → u ∉ s.1 → s.2.1 u = 0) → Q s.2.2 := fun k s R all => by
    obtain ⟨L, c, hh⟩ := s
    obtain ⟨r1, r2, r3, r4, r5, r6, r7, r8, r9, r10, r11, r12⟩ := R
    have inL : ∀ u, u < (elems n up).length → 0 < c u → u ∈ L := fun u hu hp => Classical.byContradiction fun z => by
      have : c u = 0 := all u hu z
      omega
    have cke : ck (fun e => decide (0 < c e)) (elems n up).length = k := by
      rw [← r12]
      refine ck_congr _ fun e he => ?_
      by_cases q : e ∈ L
      · rw [decide_eq_true q, decide_eq_true (r6 e q).2]
      · rw [decide_eq_false q, decide_eq_false (by have : c e = 0 := all e he q; omega)]
    exact hQ c hh r1 r2 r3 ⟨r4, fun op x y ho hx hy px py => r8 op x y ho (inL x hx px) (inL y hy py) px py⟩ (by rw [cke]; exact r11)
  have ck0 : ∀ N, ck (fun e => decide (e ∈ ([] : List Nat))) N = 0 := fun N => by
    have := ck_flat (P := fun e => decide (e ∈ ([] : List Nat))) (lo := 0) N fun c _ _ => decide_eq_false (fun z => by cases z)
    rw [Nat.zero_add] at this
    exact this
  have R0 : RND h n up G 0 ([], c, h) := ⟨Ext.rfl', sm.rf, hc0, J0, rfl, fun u hu => (by cases hu), fun e u he => (by cases he), fun op x y _ hx => (by cases hx), fun e he => (by rw [if_neg (fun z => by cases z)]; exact hf0 e he), fun j hj => (by cases hj), h50, ck0 _⟩
  refine w_A_findCosts_0 A0.1 A0.2.1 ?_
  refine for_up (σ := List Nat × (Nat → Nat) × AH) (fun k s => Ev (d + 4) g g m_A_findCosts 2 [.ref A_sub, .ref b, .int (nI k)] [] s.2.2 (asV Q)) (fun k s => RND h n up G k s) (elems n up).length (fun s R => ?_) (fun k s hk R ih => ?_) 0 ([], c, h) (Nat.zero_le _) R0
  · refine w_A_findCosts_2 (A0.1.ext R.1) (A0.2.1.ext R.1) ?_
    rw [(kA R.1 R.2.1).2.2.2]
    refine br_le _ _ rfl rfl (fun _ => fin _ s R fun u hu hn => ?_) (fun z => by omega)
    have := ck_full _ R.2.2.2.2.2.2.2.2.2.2.2 u hu
    exact absurd (of_decide_eq_true this) hn
  have A1 := kA R.1 R.2.1
  refine w_A_findCosts_2 (A0.1.ext R.1) (A0.2.1.ext R.1) ?_
  rw [A1.2.2.2]
  refine br_le _ k rfl rfl (fun z => by omega) (fun _ => ?_)
  have cb := R.2.2.2.1.lt hl
  refine S_cheapest (c := s.2.1) (L := s.1) A1.1 A1.2.2.2 hl (fun e he => ⟨R.2.2.1 e he, cb e he⟩) R.2.2.2.2.2.2.2.2.1 (fun all _ => ⟨fun z => absurd z m1_neg, fun _ => fin k s R all⟩) (fun i hi hn pi mini _ => ⟨fun _ => ?_, fun z => absurd (nI_nn (by omega)) z⟩)
  obtain ⟨L, c, hr⟩ := s
  have hn : i ∉ L := hn
  have pi : 0 < c i := pi
  have mini : ∀ u, u < (elems n up).length → u ∉ L → 0 < c u → c i ≤ c u := mini
  obtain ⟨r1, r2, r3, r4, r5, r6, r7, r8, r9, r10, r11, r12⟩ := R
  have r1 : Ext h hr := r1
  have r2 : sm (fun q z => ¬ (q = 10 ∧ z = 5) ∧ q ≠ 11 ∧ q ≠ 15 ∧ q ≠ 16) h hr := r2
  have r3 : ∀ e, e < (elems n up).length → ml hr (A_sub + 1) e = lN (c e) := r3
  have r4 : INV n up G c := r4
  have r5 : L.length = k := r5
  have r6 : ∀ u, u ∈ L → u < (elems n up).length ∧ 0 < c u := r6
  have r7 : ∀ e u, e ∈ L → u < (elems n up).length → u ∉ L → 0 < c u → c e ≤ c u := r7
  have r8 : ∀ op x y, op < 3 → x ∈ L → y ∈ L → clo n up c op x y := r8
  have r9 : ∀ e, e < (elems n up).length → mi hr (A_sub + 6) e = nI (if e ∈ L then 1 else 0) := r9
  have r10 : ∀ j, j < L.length → mi hr (A_sub + 5) j = nI (L.getD j 0) := r10
  have r11 : mi hr A_sub 5 = nI k := r11
  have r12 : ck (fun e => decide (e ∈ L)) (elems n up).length = k := r12
  have o1 : (nI 1 &&& 1 : Int32) = nI 1 := by decide
  show vp_in (nI i) 64 ∧ vp_in (mi (wi hr (A_sub + 6) (nI i).toNatClampNeg (nI 1 &&& 1)) A_sub 5) 64 ∧ Ev (d + 4) g g m_A_findCosts 50 [.ref A_sub, .ref b, .int (nI k), .int (nI i), .int (nI 0)] [] (wi (wi (wi hr (A_sub + 6) (nI i).toNatClampNeg (nI 1 &&& 1)) (A_sub + 5) (mi (wi hr (A_sub + 6) (nI i).toNatClampNeg (nI 1 &&& 1)) A_sub 5).toNatClampNeg (nI i)) A_sub 5 (mi (wi (wi hr (A_sub + 6) (nI i).toNatClampNeg (nI 1 &&& 1)) (A_sub + 5) (mi (wi hr (A_sub + 6) (nI i).toNatClampNeg (nI 1 &&& 1)) A_sub 5).toNatClampNeg (nI i)) A_sub 5 + nI 1)) (asV Q)
  rw [mi_ne (show A_sub ≠ A_sub + 5 by decide), mi_ne (show A_sub ≠ A_sub + 6 by decide), r11, nI_clamp (n := i) (by omega), nI_clamp (n := k) (by omega), nI_add k 1, o1]
  refine ⟨vp_in_nI (by omega) (by decide), vp_in_nI (by omega) (by decide), ?_⟩
  generalize hh1 : wi (wi (wi hr (A_sub + 6) i (nI 1)) (A_sub + 5) k (nI i)) A_sub 5 (nI (k + 1)) = h1
  have e1 : Ext h h1 := by rw [← hh1]; exact ((r1.trans (ext_wi _ _ _ _)).trans (ext_wi _ _ _ _)).trans (ext_wi _ _ _ _)
  have s1 : sm (fun q z => ¬ (q = 10 ∧ z = 5) ∧ q ≠ 11 ∧ q ≠ 15 ∧ q ≠ 16) h h1 := by rw [← hh1]; exact ((r2.wi (fun q => q.2.2.2 rfl)).wi (fun q => q.2.2.1 rfl)).wi (fun q => q.1 ⟨rfl, rfl⟩)
  have c1 : ∀ e, e < (elems n up).length → ml h1 (A_sub + 1) e = lN (c e) := fun e he => by rw [← hh1, ml_wi, ml_wi, ml_wi]; exact r3 e he
  have q5 : mi h1 A_sub 5 = nI (k + 1) := by rw [← hh1]; exact mi_eq
  have memL : ∀ u, u ∈ L ++ [i] ↔ u ∈ L ∨ u = i := fun u => by rw [List.mem_append]; simp
  have q6 : ∀ e, e < (elems n up).length → mi h1 (A_sub + 6) e = nI (if e ∈ L ++ [i] then 1 else 0) := fun e he => by
    rw [← hh1, mi_ne (by decide), mi_ne (by decide)]
    by_cases z : e = i
    · subst z; rw [mi_eq, if_pos ((memL e).mpr (Or.inr rfl))]
    · rw [mi_nj z, r9 e he]
      by_cases y : e ∈ L
      · rw [if_pos y, if_pos ((memL e).mpr (Or.inl y))]
      · rw [if_neg y, if_neg (fun x => ((memL e).mp x).elim y z)]
  have q7 : ∀ j, j < k + 1 → mi h1 (A_sub + 5) j = nI ((L ++ [i]).getD j 0) := fun j hj => by
    rw [getD_snoc (by omega), r5, ← hh1, mi_ne (by decide)]
    by_cases z : j = k
    · rw [if_pos z, z]; exact mi_eq
    · rw [if_neg z, mi_nj z, mi_ne (by decide)]; exact r10 j (by omega)
  have lenL : (L ++ [i]).length = k + 1 := by rw [List.length_append, r5]; rfl
  have iL : i ∈ L ++ [i] := (memL i).mpr (Or.inr rfl)
  have hL : ∀ u, u ∈ L ++ [i] → u < (elems n up).length ∧ 0 < c u ∧ c u ≤ c i := fun u hu => by
    rcases (memL u).mp hu with z | z
    · exact ⟨(r6 u z).1, (r6 u z).2, r7 u i z hi hn pi⟩
    · subst z; exact ⟨hi, pi, Nat.le_refl _⟩
  refine for_up (σ := (Nat → Nat) × AH) (fun j s => Ev (d + 4) g g m_A_findCosts 50 [.ref A_sub, .ref b, .int (nI k), .int (nI i), .int (nI j)] [] s.2 (asV Q)) (fun j s => Ext h1 s.2 ∧ sm (fun q _ => q ≠ 11) h1 s.2 ∧ (∀ e, e < (elems n up).length → ml s.2 (A_sub + 1) e = lN (s.1 e)) ∧ GD n up G c (L ++ [i]) i s.1 ∧ mono c s.1 ∧ ∀ j', j' < j → ∀ op, op < 3 → clo n up s.1 op i ((L ++ [i]).getD j' 0) ∧ clo n up s.1 op ((L ++ [i]).getD j' 0) i) (k + 1) (fun s hI => ?_) (fun j s hj hI ih2 => ?_) 0 (c, h1) (Nat.zero_le _) ⟨Ext.rfl', sm.rf, c1, ⟨r4, fun _ _ => rfl, fun u hu hu2 hp => mini u hu (fun z => hu2 ((memL u).mpr (Or.inl z))) hp⟩, mono.rf, fun j' z => by omega⟩
  · obtain ⟨c2, hh⟩ := s
    obtain ⟨x1, x2, x3, x4, x5, x6⟩ := hI
    have x3 : ∀ e, e < (elems n up).length → ml hh (A_sub + 1) e = lN (c2 e) := x3
    have x4 : GD n up G c (L ++ [i]) i c2 := x4
    have x5 : mono c c2 := x5
    have x6 : ∀ j', j' < k + 1 → ∀ op, op < 3 → clo n up c2 op i ((L ++ [i]).getD j' 0) ∧ clo n up c2 op ((L ++ [i]).getD j' 0) i := x6
    have ee := e1.trans x1
    have ss : sm (fun q z => ¬ (q = 10 ∧ z = 5) ∧ q ≠ 11 ∧ q ≠ 15 ∧ q ≠ 16) h hh := s1.trans (x2.sub fun q z hq => hq.2.1)
    refine w_A_findCosts_50 (A0.1.ext ee) (A0.2.1.ext ee) ?_
    have q5' : mi hh A_sub 5 = nI (k + 1) := (x2 _ _ (by show (10 : Nat) ≠ 11; decide)).1.trans q5
    show (mi hh A_sub 5 ≤ nI (k + 1) → _) ∧ _
    rw [q5', nI_add]
    refine br_le _ _ rfl rfl (fun _ => ih (L ++ [i], c2, hh) ?_) (fun z => by omega)
    refine ⟨ee, ss, x3, x4.1, lenL, fun u hu => ⟨(hL u hu).1, ?_⟩, fun e u he hu hnu hp => ?_, fun op x y ho hx hy => ?_, fun e he => ?_, fun j hj => ?_, q5', ?_⟩
    · show 0 < c2 u
      rw [x4.2.1 u hu]; exact (hL u hu).2.1
    · show c2 e ≤ c2 u
      rw [x4.2.1 e he]
      have := x4.2.2 u hu hnu hp
      have := (hL e he).2.2
      omega
    · show clo n up c2 op x y
      rcases (memL x).mp hx with z | z
      · rcases (memL y).mp hy with z2 | z2
        · exact clo_mono x5 (x4.2.1 x hx) (x4.2.1 y hy) (r8 op x y ho z z2)
        · obtain ⟨j', hj', q⟩ := mem_getD (show x ∈ L ++ [i] from hx)
          have := (x6 j' (by rw [← lenL]; exact hj') op ho).2
          rw [q] at this
          rw [z2]
          exact this
      · obtain ⟨j', hj', q⟩ := mem_getD (show y ∈ L ++ [i] from hy)
        have := (x6 j' (by rw [← lenL]; exact hj') op ho).1
        rw [q] at this
        rw [z]
        exact this
    · exact (x2 _ _ (by show (16 : Nat) ≠ 11; decide)).1.trans (q6 e he)
    · have hj : j < k + 1 := by rw [← lenL]; exact hj
      exact (x2 _ _ (by show (15 : Nat) ≠ 11; decide)).1.trans (q7 j hj)
    · show ck (fun e => decide (e ∈ L ++ [i])) (elems n up).length = k + 1
      rw [ck_upd (P := fun e => decide (e ∈ L)) (e := i) (decide_eq_false hn) (decide_eq_true iL) (fun u hu => ?_) _ hi, r12]
      by_cases y : u ∈ L
      · rw [decide_eq_true y, decide_eq_true ((memL u).mpr (Or.inl y))]
      · rw [decide_eq_false y, decide_eq_false (fun x => ((memL u).mp x).elim y hu)]
  · obtain ⟨c2, hh⟩ := s
    obtain ⟨x1, x2, x3, x4, x5, x6⟩ := hI
    have x2 : sm (fun q _ => q ≠ 11) h1 hh := x2
    have x3 : ∀ e, e < (elems n up).length → ml hh (A_sub + 1) e = lN (c2 e) := x3
    have x4 : GD n up G c (L ++ [i]) i c2 := x4
    have x5 : mono c c2 := x5
    have ee := e1.trans x1
    have ss : sm (fun q z => ¬ (q = 10 ∧ z = 5) ∧ q ≠ 11 ∧ q ≠ 15 ∧ q ≠ 16) h hh := s1.trans (x2.sub fun q z hq => hq.2.1)
    have q5' : mi hh A_sub 5 = nI (k + 1) := (x2 _ _ (by show (10 : Nat) ≠ 11; decide)).1.trans q5
    have q7' : mi hh (A_sub + 5) j = nI ((L ++ [i]).getD j 0) := (x2 _ _ (by show (15 : Nat) ≠ 11; decide)).1.trans (q7 j hj)
    have yL : (L ++ [i]).getD j 0 ∈ L ++ [i] := getD_mem (by omega)
    refine w_A_findCosts_50 (A0.1.ext ee) (A0.2.1.ext ee) ?_
    show (mi hh A_sub 5 ≤ nI j → _) ∧ (¬ mi hh A_sub 5 ≤ nI j → vp_in (nI j) 64 ∧ Ev (d + 3) g g m_A_offerAll 0 [.ref A_sub, .ref b, .int (nI i), .int (mi hh (A_sub + 5) (nI j).toNatClampNeg)] [] hh _)
    rw [q5', nI_clamp (n := j) (by omega), q7']
    refine br_le _ j rfl rfl (fun z => by omega) (fun _ => ⟨vp_in_nI (by omega) (by decide), S_offerAll hb (kA ee ss) w x4 hL iL yL x3 fun c3 h3 e3 s3 hc3 D3 M3 cl _ => ?_⟩)
    rw [nI_add]
    refine ih2 (c3, h3) ⟨x1.trans e3, x2.trans s3, hc3, D3, x5.trans M3, fun j' hj' op ho => ?_⟩
    by_cases z : j' = j
    · subst z; exact cl op ho
    · have q := x6 j' (by omega) op ho
      have yL' : (L ++ [i]).getD j' 0 ∈ L ++ [i] := getD_mem (by omega)
      have s1' : c3 i = c2 i := (D3.2.1 i iL).trans (x4.2.1 i iL).symm
      have s2' : c3 ((L ++ [i]).getD j' 0) = c2 ((L ++ [i]).getD j' 0) := (D3.2.1 _ yL').trans (x4.2.1 _ yL').symm
      exact ⟨clo_mono M3 s1' s2' q.1, clo_mono M3 s2' s1' q.2⟩
/-- the steps as they stand behind all ahead of t -/
def AST (h : AH) (n : Nat) (up c : Nat → Nat) (t : Nat) : Prop := ∀ e, e < (elems n up).length → (ffn (mtc n up c e) (tT (elems n up).length) 0 = ffn (mtc n up c e) (tT (elems n up).length - t) t ∧ mi h (A_sub + 2) e = nI 3 ∧ mi h (A_sub + 3) e = kNone ∧ mi h (A_sub + 4) e = kNone) ∨ (ffn (mtc n up c e) (tT (elems n up).length) 0 < tT (elems n up).length ∧ mi h (A_sub + 2) e = sOp (elems n up).length (ffn (mtc n up c e) (tT (elems n up).length) 0) ∧ mi h (A_sub + 3) e = sLe (elems n up).length (ffn (mtc n up c e) (tT (elems n up).length) 0) ∧ mi h (A_sub + 4) e = sRi (elems n up).length (ffn (mtc n up c e) (tT (elems n up).length) 0))
theorem AST.skip {t : Nat} (A : AST h n up c t) (ht : t < tT (elems n up).length) (hf : ∀ e, e < (elems n up).length → mtc n up c e t = false ∨ ¬ mi h (A_sub + 2) e = nI 3) : AST h n up c (t + 1) := fun e he => by
  rcases A e he with z | z
  · rcases hf e he with q | q
    · exact Or.inl ⟨ffn_step ht q z.1, z.2⟩
    · exact absurd z.2.1 q
  · exact Or.inr z
theorem sOp_3 {N k : Nat} (h : k < tT N) : ¬ sOp N k = nI 3 := by
  unfold sOp
  rw [if_pos h]
  have : dgt (cN N) k 0 < 3 := Nat.mod_lt _ (by show 0 < 3; decide)
  exact fun z => by have := nI_inj (by omega) (by decide) z; omega
theorem S_findSteps {b : Nat} (hb : 16 < b) (A0 : GCH h b n up val) (w : wfP n up) (hc0 : ∀ e, e < (elems n up).length → ml h (A_sub + 1) e = lN (c e) ∧ c e < 2 ^ 60) (hs0 : ∀ e, e < (elems n up).length → mi h (A_sub + 2) e = nI 3 ∧ mi h (A_sub + 3) e = kNone ∧ mi h (A_sub + 4) e = kNone) (hQ : ∀ h1, Ext h h1 → sm (fun q _ => ¬ (12 ≤ q ∧ q ≤ 14)) h h1 → AST h1 n up c (tT (elems n up).length) → Q h1) : Ev (d + 3) g g m_A_findSteps 0 [.ref A_sub, .ref b] [] h (asV Q) := by
  have h6 := w.1.2
  have hl := elems_len (up := up) h6
  let X : AH → Prop := fun hh => Ext h hh ∧ sm (fun q _ => ¬ (12 ≤ q ∧ q ≤ 14)) h hh
  have kA : ∀ {hh}, X hh → GCH hh b n up val := fun xs => A0.keep hb xs.1 (xs.2.sub fun q z hq => by omega)
  have kc : ∀ {hh}, X hh → ∀ e, e < (elems n up).length → ml hh (A_sub + 1) e = lN (c e) := fun xs e he => (xs.2 _ _ (by show ¬ (12 ≤ 11 ∧ 11 ≤ 14); decide)).2.trans (hc0 e he).1
  have eq : ∀ op, (op * (elems n up).length + (elems n up).length) * (elems n up).length + 0 = ((op + 1) * (elems n up).length + 0) * (elems n up).length + 0 := fun op => idx_q (c := cN (elems n up).length)
  have er : ∀ op x, (op * (elems n up).length + x) * (elems n up).length + (elems n up).length = (op * (elems n up).length + (x + 1)) * (elems n up).length + 0 := fun op x => idx_r (c := cN (elems n up).length)
  refine w_A_findSteps_0 A0.1 A0.2.1 ?_
  refine for_up (σ := AH) (fun op hh => Ev (d + 3) g g m_A_findSteps 2 [.ref A_sub, .ref b, .int (nI op)] [] hh (asV Q)) (fun op hh => X hh ∧ AST hh n up c ((op * (elems n up).length + 0) * (elems n up).length + 0)) 3 (fun hh hI => ?_) (fun op hh hop hI ih => ?_) 0 h (Nat.zero_le _) ⟨⟨Ext.rfl', sm.rf⟩, fun e he => Or.inl ⟨?_, hs0 e he⟩⟩
  · obtain ⟨xs, st⟩ := hI
    refine w_A_findSteps_2 (A0.1.ext xs.1) (A0.2.1.ext xs.1) (br_lt 2 3 rfl rfl (fun _ => hQ hh xs.1 xs.2 ?_) (fun z => by omega))
    have top : tT (elems n up).length = (3 * (elems n up).length + 0) * (elems n up).length + 0 := by unfold tT; rw [Nat.add_zero, Nat.add_zero]
    rw [← top] at st
    exact st
  rotate_left
  · have e0 : (0 * (elems n up).length + 0) * (elems n up).length + 0 = 0 := by simp
    rw [e0]
    rfl
  refine w_A_findSteps_2 (A0.1.ext hI.1.1) (A0.2.1.ext hI.1.1) (br_lt 2 op rfl rfl (fun z => by omega) (fun _ => ?_))
  refine for_up (σ := AH) (fun x hh => Ev (d + 3) g g m_A_findSteps 9 [.ref A_sub, .ref b, .int (nI op), .int (nI x)] [] hh (asV Q)) (fun x hh => X hh ∧ AST hh n up c ((op * (elems n up).length + x) * (elems n up).length + 0)) (elems n up).length (fun hh hI => ?_) (fun x hh hx hI ih2 => ?_) 0 hh (Nat.zero_le _) hI
  · obtain ⟨xs, st⟩ := hI
    refine w_A_findSteps_9 (A0.1.ext xs.1) (A0.2.1.ext xs.1) ?_
    rw [(kA xs).2.2.2, nI_add]
    refine br_le _ _ rfl rfl (fun _ => ih hh ⟨xs, ?_⟩) (fun z => by omega)
    rw [eq] at st
    exact st
  refine w_A_findSteps_9 (A0.1.ext hI.1.1) (A0.2.1.ext hI.1.1) ?_
  rw [(kA hI.1).2.2.2]
  refine br_le _ x rfl rfl (fun z => by omega) (fun _ => ?_)
  refine for_up (σ := AH) (fun y hh => Ev (d + 3) g g m_A_findSteps 20 [.ref A_sub, .ref b, .int (nI op), .int (nI x), .int (nI y)] [] hh (asV Q)) (fun y hh => X hh ∧ AST hh n up c ((op * (elems n up).length + x) * (elems n up).length + y)) (elems n up).length (fun hh hI => ?_) (fun y hh hy hI ih3 => ?_) 0 hh (Nat.zero_le _) hI
  · obtain ⟨xs, st⟩ := hI
    refine w_A_findSteps_20 (A0.1.ext xs.1) (A0.2.1.ext xs.1) ?_
    rw [(kA xs).2.2.2, nI_add]
    refine br_le _ _ rfl rfl (fun _ => ih2 hh ⟨xs, ?_⟩) (fun z => by omega)
    rw [er] at st
    exact st
  obtain ⟨xs, st⟩ := hI
  have cx := (hc0 x hx).2
  have cy := (hc0 y hy).2
  have he := rs_lt w (op := op) hx hy
  have ce := (hc0 _ he).2
  have tl := tx_lt (n := n) (up := up) hop hx hy
  have sk : ∀ {h2}, X h2 → AST h2 n up c ((op * (elems n up).length + x) * (elems n up).length + y) → (∀ e, e < (elems n up).length → mtc n up c e ((op * (elems n up).length + x) * (elems n up).length + y) = false ∨ ¬ mi h2 (A_sub + 2) e = nI 3) → Ev (d + 3) g g m_A_findSteps 20 [.ref A_sub, .ref b, .int (nI op), .int (nI x), .int (nI y + nI 1)] [] h2 (asV Q) := fun xs2 st2 q => by
    rw [nI_add]
    exact ih3 _ ⟨xs2, AST.skip st2 tl q⟩
  refine w_A_findSteps_20 (A0.1.ext xs.1) (A0.2.1.ext xs.1) ?_
  rw [(kA xs).2.2.2, nI_clamp (n := x) (by omega), nI_clamp (n := y) (by omega), kc xs x hx, kc xs y hy, cL_N]
  refine br_le _ y rfl rfl (fun z => by omega) (fun _ => ⟨vp_in_nI (by omega) (by decide), bl_le (by omega) (by decide) (fun z => sk xs st fun e _ => Or.inl ?_) (fun px => ⟨vp_in_nI (by omega) (by decide), bl_le (by omega) (by decide) (fun z => sk xs st fun e _ => Or.inl ?_) (fun py => ?_)⟩)⟩)
  · rw [mtc_eq hop hx hy, decide_eq_false (by omega)]; rfl
  · rw [mtc_eq hop hx hy, show decide (0 < c y) = false from decide_eq_false (by omega), Bool.and_false]; rfl
  refine S_res (kA xs) w hop hx hy fun _ => ?_
  have ve : vp_in (nI (rsN n up op x y)) 64 := vp_in_nI (by omega) (by decide)
  have other : ∀ e, rsN n up op x y ≠ e → mtc n up c e ((op * (elems n up).length + x) * (elems n up).length + y) = false := fun e q => by
    rw [mtc_eq hop hx hy, show (rsN n up op x y == e) = false by simpa using q, Bool.and_false]; rfl
  refine w_A_noteStep_0 (A0.1.ext xs.1) ⟨fun z => absurd z (nI_nl (by omega)), fun _ => ?_⟩
  rw [nI_clamp (n := rsN n up op x y) (by omega), nI_clamp (n := x) (by omega), nI_clamp (n := y) (by omega), kc xs _ he, kc xs x hx, kc xs y hy, cL_N, lN_add, lN_add]
  refine ⟨ve, ⟨fun z _ => sk xs st fun e _ => ?_, fun z3 => ⟨ve, vp_in_nI (by omega) (by decide), vp_in_nI (by omega) (by decide), (bl_eq (by omega) (by omega) (fun zc => ⟨ve, ve, ve, fun _ => ?_⟩) (fun zc _ => sk xs st fun e _ => Or.inl ?_)).symm⟩⟩⟩
  · by_cases q : rsN n up op x y = e
    · subst q; exact Or.inr z
    · exact Or.inl (other e q)
  · by_cases q : rsN n up op x y = e
    · subst q
      rw [mtc_eq hop hx hy, show (c (rsN n up op x y) == 1 + c x + c y) = false by simpa using zc, Bool.and_false]
    · exact other e q
  · rw [nI_add]
    refine ih3 _ ⟨⟨((xs.1.trans (ext_wi _ _ _ _)).trans (ext_wi _ _ _ _)).trans (ext_wi _ _ _ _), ((xs.2.wi (fun q => q (by decide))).wi (fun q => q (by decide))).wi (fun q => q (by decide))⟩, fun e hel => ?_⟩
    have ss := stp_eq (n := n) (up := up) hop hx hy
    by_cases q : rsN n up op x y = e
    · subst q
      have hit : mtc n up c (rsN n up op x y) ((op * (elems n up).length + x) * (elems n up).length + y) = true := by
        rw [mtc_eq hop hx hy, decide_eq_true px, decide_eq_true py]
        simp [zc]
      rcases st _ he with z | z
      · have fe := ffn_hit tl hit z.1
        refine Or.inr ⟨by rw [fe]; exact tl, ?_, ?_, ?_⟩
        · rw [fe, ss.1, mi_ne (by decide), mi_ne (by decide), mi_eq]
        · rw [fe, ss.2.1, mi_ne (by decide), mi_eq]
        · rw [fe, ss.2.2, mi_eq]
      · rw [z.2.1] at z3
        exact absurd z3 (sOp_3 z.1)
    · have q' : e ≠ rsN n up op x y := fun z => q z.symm
      have no := other e q
      rcases st e hel with z | z
      · refine Or.inl ⟨ffn_step tl no z.1, ?_, ?_, ?_⟩
        · rw [mi_ne (by decide), mi_ne (by decide), mi_nj q']; exact z.2.1
        · rw [mi_ne (by decide), mi_nj q', mi_ne (by decide)]; exact z.2.2.1
        · rw [mi_nj q', mi_ne (by decide), mi_ne (by decide)]; exact z.2.2.2
      · refine Or.inr ⟨z.1, ?_, ?_, ?_⟩
        · rw [mi_ne (by decide), mi_ne (by decide), mi_nj q']; exact z.2.1
        · rw [mi_ne (by decide), mi_nj q', mi_ne (by decide)]; exact z.2.2.1
        · rw [mi_nj q', mi_ne (by decide), mi_ne (by decide)]; exact z.2.2.2
end RNDS

/-! generate: the class's whole -/
section GENF
variable {d g n : Nat} {up val c : Nat → Nat} {G : List Nat} {h : AH}
theorem AST.fin (A : AST h n up c (tT (elems n up).length)) {e : Nat} (he : e < (elems n up).length) : mi h (A_sub + 2) e = sOp (elems n up).length (ffn (mtc n up c e) (tT (elems n up).length) 0) ∧ mi h (A_sub + 3) e = sLe (elems n up).length (ffn (mtc n up c e) (tT (elems n up).length) 0) ∧ mi h (A_sub + 4) e = sRi (elems n up).length (ffn (mtc n up c e) (tT (elems n up).length) 0) := by
  rcases A e he with z | z
  · rw [ffn_end z.1]
    unfold sOp sLe sRi
    rw [if_neg (Nat.lt_irrefl _), if_neg (Nat.lt_irrefl _), if_neg (Nat.lt_irrefl _)]
    exact z.2
  · exact z.2
theorem S_start {Q : AH → Prop} {b : Nat} (hb : 16 < b) (fA : is_A h A_sub) (fb : is_P h b) (P : PC h b n up val) (w : wfP n up) (hQ : ∀ h1, Ext h h1 → sm (fun q z => ¬ (q = 10 ∧ (z = 0 ∨ z = 5)) ∧ ¬ (11 ≤ q ∧ q ≤ 16)) h h1 → mi h1 A_sub 0 = nI (elems n up).length → mi h1 A_sub 5 = nI 0 → (∀ e, e < (elems n up).length → ml h1 (A_sub + 1) e = lN (if e = 0 ∨ e = (elems n up).length - 1 then 1 else 0) ∧ (mi h1 (A_sub + 2) e = nI 3 ∧ mi h1 (A_sub + 3) e = kNone ∧ mi h1 (A_sub + 4) e = kNone) ∧ mi h1 (A_sub + 6) e = nI 0) → Q h1) : Ev d g g m_A_start 0 [.ref A_sub, .ref b] [] h (asV Q) := by
  have h6 := w.1.2
  have hl := elems_len (up := up) h6
  have hN := (el_top w).2
  have o0 : (nI 0 &&& 1 : Int32) = nI 0 := by decide
  refine w_A_start_0 fA fb ?_
  rw [P.2.2.1.1]
  refine for_up (σ := AH) (fun k hh => Ev d g g m_A_start 15 [.ref A_sub, unk, .int (nI k)] [] hh (asV Q)) (fun k hh => (Ext h hh ∧ sm (fun q z => ¬ (q = 10 ∧ (z = 0 ∨ z = 5)) ∧ ¬ (11 ≤ q ∧ q ≤ 16)) h hh) ∧ (mi hh A_sub 0 = nI (elems n up).length ∧ mi hh A_sub 5 = nI 0) ∧ ∀ e, e < k → ml hh (A_sub + 1) e = lN 0 ∧ (mi hh (A_sub + 2) e = nI 3 ∧ mi hh (A_sub + 3) e = kNone ∧ mi hh (A_sub + 4) e = kNone) ∧ mi hh (A_sub + 6) e = nI 0) (elems n up).length (fun hh hI => ?_) (fun k hh hk hI ih => ?_) 0 _ (Nat.zero_le _) ?_
  · obtain ⟨⟨ee, sa⟩, ⟨m0, m5⟩, hz⟩ := hI
    refine w_A_start_15 (fA.ext ee) ?_
    rw [mi_wl, m0, pk_sub (by omega), nI_clamp (n := 0) (by decide), nI_clamp (n := (elems n up).length - 1) (by omega), cL_N]
    refine br_le _ _ rfl rfl (fun _ => ⟨vp_in_nI (by decide) (by decide), vp_in_nI (by omega) (by decide), ?_⟩) (fun z => by omega)
    refine hQ _ ((ee.trans (ext_wl _ _ _ _)).trans (ext_wl _ _ _ _)) ((sa.wl (fun q => q.2 (by decide))).wl (fun q => q.2 (by decide))) (by rw [mi_wl, mi_wl]; exact m0) (by rw [mi_wl, mi_wl]; exact m5) fun e he => ?_
    obtain ⟨z1, z2, z3⟩ := hz e he
    refine ⟨?_, z2, z3⟩
    rw [ml_wl, ml_wl]
    by_cases q1 : e = (elems n up).length - 1
    · rw [if_pos ⟨rfl, q1⟩, if_pos (Or.inr q1)]
    · rw [if_neg (fun z => q1 z.2)]
      by_cases q2 : e = 0
      · rw [if_pos ⟨rfl, q2⟩, if_pos (Or.inl q2)]
      · rw [if_neg (fun z => q2 z.2), if_neg (fun z => z.elim q2 q1)]; exact z1
  · obtain ⟨⟨ee, sa⟩, ⟨m0, m5⟩, hz⟩ := hI
    have v64 : vp_in (nI k) 64 := vp_in_nI (by omega) (by decide)
    refine w_A_start_15 (fA.ext ee) ?_
    rw [m0, nI_clamp (n := k) (by omega), cL_N, o0, nI_add]
    refine br_le _ k rfl rfl (fun z => by omega) (fun _ => ⟨v64, v64, v64, v64, v64, ih _ ⟨⟨((((ee.trans (ext_wl _ _ _ _)).trans (ext_wi _ _ _ _)).trans (ext_wi _ _ _ _)).trans (ext_wi _ _ _ _)).trans (ext_wi _ _ _ _), ((((sa.wl (fun q => q.2 (by decide))).wi (fun q => q.2 (by decide))).wi (fun q => q.2 (by decide))).wi (fun q => q.2 (by decide))).wi (fun q => q.2 (by decide))⟩, ⟨?_, ?_⟩, fun e he => ?_⟩⟩)
    · rw [mi_ne (by decide), mi_ne (by decide), mi_ne (by decide), mi_ne (by decide), mi_wl]; exact m0
    · rw [mi_ne (by decide), mi_ne (by decide), mi_ne (by decide), mi_ne (by decide), mi_wl]; exact m5
    · by_cases q : e = k
      · subst q
        refine ⟨?_, ⟨?_, ?_, ?_⟩, ?_⟩
        · rw [ml_wi, ml_wi, ml_wi, ml_wi, ml_wl, if_pos ⟨rfl, rfl⟩]; exact cL_N
        · rw [mi_ne (by decide), mi_ne (by decide), mi_ne (by decide), mi_eq]
        · rw [mi_ne (by decide), mi_ne (by decide), mi_eq]
        · rw [mi_ne (by decide), mi_eq]
        · exact mi_eq
      · obtain ⟨z1, ⟨z2, z3, z4⟩, z5⟩ := hz e (by omega)
        refine ⟨?_, ⟨?_, ?_, ?_⟩, ?_⟩
        · rw [ml_wi, ml_wi, ml_wi, ml_wi, ml_wl, if_neg (fun z => q z.2)]; exact z1
        · rw [mi_ne (by decide), mi_ne (by decide), mi_ne (by decide), mi_nj q, mi_wl]; exact z2
        · rw [mi_ne (by decide), mi_ne (by decide), mi_nj q, mi_ne (by decide), mi_wl]; exact z3
        · rw [mi_ne (by decide), mi_nj q, mi_ne (by decide), mi_ne (by decide), mi_wl]; exact z4
        · rw [mi_nj q, mi_ne (by decide), mi_ne (by decide), mi_ne (by decide), mi_wl]; exact z5
  · exact ⟨⟨(ext_wi _ _ _ _).trans (ext_wi _ _ _ _), (sm.rf.wi (fun q => q.1 ⟨rfl, Or.inl rfl⟩)).wi (fun q => q.1 ⟨rfl, Or.inr rfl⟩)⟩, ⟨by rw [mi_nj (by decide), mi_eq], mi_eq⟩, fun e he => by omega⟩
end GENF
section GENT
variable {d g : Nat} {h : AH} {S : St} {K : Int32 → AH → Prop} {v : Int32}
theorem C_generate (W : WS S) (I : InvC h S) (hK : ∀ h1, (∀ i, ix v 4 = some i → (∀ e, e ∈ sG S → e < (pE (sP S i)).length) → ∃ c, SOL (sP S i).1 (sP S i).2.1 (sG S) c) → doneC (oGnr S v).2 h h1 → K (oGnr S v).1 h1) : Ev (d + 5) g g m_C_generate 0 [.ref A_x, .int v] [] h (asI K) := by
  refine w_C_generate_0 I.1 (S_posetAt I.1 (fun e => by rw [oGnr_n e] at hK; exact hK h (fun i z => by rw [e] at z; cases z) (doneC.rf I)) (fun i hi _ fi e => ⟨fi, ?_⟩))
  rw [oGnr_s e] at hK
  have w := (W.1 i hi).1
  have h6 := w.1.2
  have hl : (pE (sP S i)).length ≤ 64 := elems_len (up := (sP S i).2.1) h6
  have gl := W.2.2.2.1.1
  have P := I.2.1 i hi
  have cg := I.2.2.2.2.1
  have hb : 16 < aP i := by simp only [aP]; omega
  have gin : ∀ k, k < (sG S).length → (sG S).getD k 0 < 64 ∧ (sG S).getD k 0 ∈ sG S := fun k hk => ⟨W.2.2.2.1.2 _ (getD_mem hk), getD_mem hk⟩
  refine for_up (σ := Unit) (fun k _ => Ev (d + 5) g g m_C_generate 14 [.ref A_x, unk, .ref (aP i), .int (nI k)] [] h (asI K)) (fun k _ => ∀ j, j < k → (sG S).getD j 0 < (pE (sP S i)).length) (sG S).length (fun _ hI => ?_) (fun k _ hk hI ih => ?_) 0 () (Nat.zero_le _) (fun j hj => by omega)
  rotate_left
  · have gk := gin k hk
    refine w_C_generate_14 I.1 fi ?_
    rw [cg.1, nI_clamp (n := k) (by omega), cg.2 k hk, nI_add]
    refine br_le _ k rfl rfl (fun z => by omega) (fun _ => ⟨vp_in_nI (by omega) (by decide), S_hasElement fi P.2.2.1.1 hl fun _ => br_nb (fun e1 => ?_) (fun e1 => ?_)⟩)
    · have no : ¬ ∀ e, e ∈ sG S → e < (pE (sP S i)).length := fun q => by
        have e2 := ix_nI (n := (pE (sP S i)).length) (q _ gk.2) (by omega)
        have e1 : (ix (nI ((sG S).getD k 0)) (pE (sP S i)).length).isSome = false := e1
        rw [e2] at e1
        cases e1
      rw [oGnr2_n no] at hK
      exact hK h (fun i' z q => by rw [e] at z; cases z; exact absurd q no) (doneC.rf I)
    · refine ih () fun j hj => ?_
      by_cases q : j = k
      · subst q
        obtain ⟨x, ex⟩ := Option.isSome_iff_exists.mp e1
        have q1 := ix_some ex
        have q2 : x < (pE (sP S i)).length := q1.1
        have := nI_inj (by omega) (by omega) q1.2
        omega
      · exact hI j (by omega)
  have hG : ∀ e, e ∈ sG S → e < (pE (sP S i)).length := fun e he => by
    obtain ⟨k, hk, q⟩ := mem_getD he
    rw [← q]
    exact hI k hk
  rw [oGnr2_s hG] at hK
  refine w_C_generate_14 I.1 fi ?_
  rw [cg.1]
  refine br_le _ _ rfl rfl (fun _ => ?_) (fun z => by omega)
  refine S_start hb I.1.p_subalgebra fi P w fun h1 e1 s1 m0 m5 hz _ => ?_
  let X : AH → Prop := fun hh => Ext h hh ∧ sm (fun q z => ¬ (q = 10 ∧ (z = 0 ∨ z = 5)) ∧ ¬ (11 ≤ q ∧ q ≤ 16)) h hh
  have kG : ∀ {hh}, X hh → mi hh A_x 5 = nI (sG S).length ∧ ∀ k, k < (sG S).length → mi hh A_gens k = nI ((sG S).getD k 0) := fun xs => ⟨(xs.2 _ _ ⟨fun q => absurd q.1 (by decide), by decide⟩).1.trans cg.1, fun k hk => (xs.2 _ _ ⟨fun q => absurd q.1 (by decide), by decide⟩).1.trans (cg.2 k hk)⟩
  have kP : ∀ {hh}, X hh → mi hh A_sub 0 = nI (pE (sP S i)).length → GCH hh (aP i) (sP S i).1 (sP S i).2.1 (sP S i).2.2 := fun xs z => ⟨I.1.p_subalgebra.ext xs.1, fi.ext xs.1, P.keep xs.2 fun q j q1 q2 => ⟨fun y => by omega, by omega⟩, z⟩
  refine for_up (σ := AH) (fun k hh => Ev (d + 5) g g m_C_generate 54 [.ref A_x, unk, .ref (aP i), .int (nI k)] [] hh (asI K)) (fun k hh => X hh ∧ (mi hh A_sub 0 = nI (pE (sP S i)).length ∧ mi hh A_sub 5 = nI 0) ∧ (∀ e, e < (pE (sP S i)).length → (mi hh (A_sub + 2) e = nI 3 ∧ mi hh (A_sub + 3) e = kNone ∧ mi hh (A_sub + 4) e = kNone) ∧ mi hh (A_sub + 6) e = nI 0) ∧ ∀ e, e < (pE (sP S i)).length → ml hh (A_sub + 1) e = lN (if e = 0 ∨ e = (pE (sP S i)).length - 1 ∨ ∃ j, j < k ∧ (sG S).getD j 0 = e then 1 else 0)) (sG S).length (fun hh hI => ?_) (fun k hh hk hI ih => ?_) 0 h1 (Nat.zero_le _) ⟨⟨e1, s1⟩, ⟨m0, m5⟩, fun e he => (hz e he).2, fun e he => ?_⟩
  · obtain ⟨xs, ⟨m0, m5⟩, zs, hc⟩ := hI
    refine w_C_generate_54 (I.1.ext xs.1) (fi.ext xs.1) ?_
    rw [(kG xs).1]
    refine br_le _ _ rfl rfl (fun _ => ?_) (fun z => by omega)
    have hc1 : ∀ e, e < (pE (sP S i)).length → ml hh (A_sub + 1) e = lN (c00 (sP S i).1 (sP S i).2.1 (sG S) e) := fun e he => by
      rw [hc e he]
      unfold c00
      have q : (e = 0 ∨ e = (pE (sP S i)).length - 1 ∨ ∃ j, j < (sG S).length ∧ (sG S).getD j 0 = e) ↔ (e = 0 ∨ e = (pE (sP S i)).length - 1 ∨ e ∈ sG S) := ⟨fun z => z.imp id fun z => z.imp id fun ⟨j, h1, h2⟩ => h2 ▸ getD_mem h1, fun z => z.imp id fun z => z.imp id fun h1 => mem_getD h1⟩
      by_cases q2 : e = 0 ∨ e = (pE (sP S i)).length - 1 ∨ e ∈ sG S
      · rw [if_pos q2, if_pos (q.mpr q2)]
      · rw [if_neg q2, if_neg (fun z => q2 (q.mp z))]
    refine S_findCosts (d := d) hb (kP xs m0) w (c00_INV w) hc1 (fun e he => (zs e he).2) m5 fun c2 h2 e2 s2 hc2 A m52 _ => ?_
    have ge := gC_eq w A
    have cb := A.1.lt hl
    have X2 : X h2 := ⟨xs.1.trans e2, xs.2.trans (s2.sub fun q z hq => ⟨fun y => hq.1 ⟨y.1, Or.inr y.2⟩, by omega, by omega, by omega⟩)⟩
    have m02 : mi h2 A_sub 0 = nI (pE (sP S i)).length := (s2 _ _ ⟨fun q => absurd q.2 (by decide), by decide, by decide, by decide⟩).1.trans m0
    have st2 : ∀ e, e < (pE (sP S i)).length → mi h2 (A_sub + 2) e = nI 3 ∧ mi h2 (A_sub + 3) e = kNone ∧ mi h2 (A_sub + 4) e = kNone := fun e he => by
      obtain ⟨⟨z1, z2, z3⟩, _⟩ := zs e he
      exact ⟨(s2 _ _ ⟨fun q => absurd q.1 (by decide), by decide, by decide, by decide⟩).1.trans z1, (s2 _ _ ⟨fun q => absurd q.1 (by decide), by decide, by decide, by decide⟩).1.trans z2, (s2 _ _ ⟨fun q => absurd q.1 (by decide), by decide, by decide, by decide⟩).1.trans z3⟩
    refine S_findSteps (d := d + 1) hb (kP X2 m02) w (fun e he => ⟨hc2 e he, cb e he⟩) st2 fun h3 e3 s3 st _ => ?_
    have X3 : X h3 := ⟨X2.1.trans e3, X2.2.trans (s3.sub fun q z hq => by omega)⟩
    have m53 : mi h3 A_sub 5 = nI (gK (sP S i).1 (sP S i).2.1 (sG S)) := by
      rw [(s3 A_sub 5 (by show ¬ (12 ≤ 10 ∧ 10 ≤ 14); decide)).1, m52]
      unfold gK
      exact congrArg nI (ck_congr _ fun e he => by rw [ge.1 e he])
    rw [m53]
    refine hK h3 (fun i' z q => by rw [e] at z; cases z; exact ⟨c2, A⟩) ⟨InvC.atD I X3.1 (X3.2.sub fun q z hq => ?_) ⟨?_, fun k hk => ?_⟩, X3.1, X3.2.sub fun q z hq => ?_⟩
    · have h1 := hq.1
      simp only [PCx] at h1
      exact ⟨fun y => by omega, by omega⟩
    · exact (s3 _ _ (by show ¬ (12 ≤ 10 ∧ 10 ≤ 14); decide)).1.trans m02
    · have hk : k < (pE (sP S i)).length := hk
      have sk := st.fin hk
      have fc : ffn (mtc (sP S i).1 (sP S i).2.1 c2 k) (tT (elems (sP S i).1 (sP S i).2.1).length) 0 = ffn (mtc (sP S i).1 (sP S i).2.1 (gC (sP S i).1 (sP S i).2.1 (sG S)) k) (tT (elems (sP S i).1 (sP S i).2.1).length) 0 := ffn_congr (fun t => mtc_congr w (fun e he => (ge.1 e he).symm) hk t) _ _
      rw [fc] at sk
      refine ⟨?_, sk.1, sk.2.1, sk.2.2⟩
      rw [(s3 (A_sub + 1) k (by show ¬ (12 ≤ 11 ∧ 11 ≤ 14); decide)).2, hc2 k hk]
      show lN (c2 k) = lN (gC _ _ _ k)
      rw [ge.1 k hk]
    · omega
  · obtain ⟨xs, ⟨m0, m5⟩, zs, hc⟩ := hI
    have gk := gin k hk
    have gl2 := hG _ gk.2
    refine w_C_generate_54 (I.1.ext xs.1) (fi.ext xs.1) ?_
    rw [(kG xs).1, nI_clamp (n := k) (by omega), (kG xs).2 k hk, nI_clamp (n := (sG S).getD k 0) (by omega), cL_N, nI_add]
    refine br_le _ k rfl rfl (fun z => by omega) (fun _ => ⟨vp_in_nI (by omega) (by decide), vp_in_nI (by omega) (by decide), ih _ ⟨⟨xs.1.trans (ext_wl _ _ _ _), xs.2.wl (fun q => q.2 (by decide))⟩, ⟨m0, m5⟩, zs, fun e he => ?_⟩⟩)
    rw [ml_wl]
    by_cases q : e = (sG S).getD k 0
    · rw [if_pos ⟨rfl, q⟩, if_pos (Or.inr (Or.inr ⟨k, by omega, q.symm⟩))]
    · rw [if_neg (fun z => q z.2), hc e he]
      by_cases q2 : e = 0 ∨ e = (pE (sP S i)).length - 1 ∨ ∃ j, j < k ∧ (sG S).getD j 0 = e
      · rw [if_pos q2, if_pos (q2.imp id fun z => z.imp id fun ⟨j, h1, h2⟩ => ⟨j, by omega, h2⟩)]
      · rw [if_neg q2, if_neg (fun z => q2 (z.imp id fun z => z.imp id fun ⟨j, h1, h2⟩ => ⟨j, by
          by_cases q3 : j = k
          · subst q3; exact absurd h2.symm q
          · omega, h2⟩))]
  · rw [(hz e he).1]
    by_cases q : e = 0 ∨ e = (pE (sP S i)).length - 1
    · rw [if_pos q, if_pos (q.imp id fun z => Or.inl z)]
    · rw [if_neg q, if_neg (fun z => q (z.imp id fun z => z.elim id fun ⟨j, h1, h2⟩ => by omega))]
theorem WS.gnr (W : WS S) (hx : ∀ i, ix v 4 = some i → (∀ e, e ∈ sG S → e < (pE (sP S i)).length) → ∃ c, SOL (sP S i).1 (sP S i).2.1 (sG S) c) : WS (oGnr S v).2 := by
  cases e : ix v 4 with
  | none => rw [oGnr_n e]; exact W
  | some i =>
    rw [oGnr_s e]
    by_cases hG : ∀ e, e ∈ sG S → e < (pE (sP S i)).length
    · rw [oGnr2_s hG]
      obtain ⟨c, A⟩ := hx i e hG
      exact W.gD (ix_some e).1 A
    · rw [oGnr2_n hG]; exact W
end GENT

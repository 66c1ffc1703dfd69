/-! generate: the reference's steps and its whole -/
theorem nI_dn {a : Nat} : nI (a + 1) - nI 1 = nI a := by rw [pk_sub (by omega), Nat.add_sub_cancel]
section GENS
variable {d g i n : Nat} {up c : Nat → Nat} {G : List Nat} {h : AH} {K : Int32 → AH → Prop}
/-- the steps as they stand behind all from t on -/
def STPS (h : AH) (a1 a2 a3 n : Nat) (up c : Nat → Nat) (t : Nat) : Prop := ∀ e, e < (elems n up).length → mi h a1 e = sOp (elems n up).length (ffn (mtc n up c e) (tT (elems n up).length - t) t) ∧ mi h a2 e = sLe (elems n up).length (ffn (mtc n up c e) (tT (elems n up).length - t) t) ∧ mi h a3 e = sRi (elems n up).length (ffn (mtc n up c e) (tT (elems n up).length - t) t)
theorem STPS.flat {a1 a2 a3 t m : Nat} (A : STPS h a1 a2 a3 n up c (t + m)) (hm : t + m ≤ tT (elems n up).length) (hf : ∀ e k, t ≤ k → k < t + m → mtc n up c e k = false) : STPS h a1 a2 a3 n up c t := fun e he => by
  rw [ffn_flat (P := mtc n up c e) m hm fun k h1 h2 => hf e k h1 h2]
  exact A e he
theorem S_MfindsSteps {Q : AH → Prop} (A0 : GMH h i n up) (hi : i < 5) (w : wfP n up) (hc0 : ∀ e, e < (elems n up).length → ml h M_cost e = lN (c e) ∧ c e < 2 ^ 60) (hs0 : ∀ e, e < (elems n up).length → mi h M_operator e = nI 3 ∧ mi h M_left e = kNone ∧ mi h M_right e = kNone) (hQ : ∀ h1, Ext h h1 → sm (fun q _ => ¬ (87 ≤ q ∧ q ≤ 89)) h h1 → STPS h1 M_operator M_left M_right n up c 0 → Q h1) : Ev (d + 2) g g m_M_findsSteps 0 [.ref A_M, .int (nI i)] [] h (asV Q) := by
  have h6 := w.1.2
  have hl := elems_len (up := up) h6
  have hN := (el_top w).2
  have top : tT (elems n up).length = (3 * (elems n up).length + 0) * (elems n up).length + 0 := by unfold tT; rw [Nat.add_zero, Nat.add_zero]
  let X : AH → Prop := fun hh => Ext h hh ∧ sm (fun q _ => ¬ (87 ≤ q ∧ q ≤ 89)) h hh
  have kA : ∀ {hh}, X hh → GMH hh i n up := fun xs => A0.keep xs.1 (xs.2.sub fun q z hq => by omega)
  have kc : ∀ {hh}, X hh → ∀ e, e < (elems n up).length → ml hh M_cost e = lN (c e) := fun xs e he => (xs.2 _ _ (by show ¬ (87 ≤ 90 ∧ 90 ≤ 89); decide)).2.trans (hc0 e he).1
  refine w_M_findsSteps_0 A0.1 ?_
  have go : ∀ a hh, a ≤ 3 → X hh → STPS hh M_operator M_left M_right n up c ((a * (elems n up).length + 0) * (elems n up).length + 0) → Ev (d + 2) g g m_M_findsSteps 2 [.ref A_M, .int (nI i), .int (nI a - nI 1)] [] hh (asV Q) := by
    intro a
    induction a with
    | zero =>
      intro hh _ xs st
      refine w_M_findsSteps_2 (A0.1.ext xs.1) ⟨fun _ => hQ hh xs.1 xs.2 ?_, fun z => absurd m1m z⟩
      have e0 : (0 * (elems n up).length + 0) * (elems n up).length + 0 = 0 := by simp
      rw [e0] at st
      exact st
    | succ op iop =>
      intro hh hop xs st
      refine w_M_findsSteps_2 (A0.1.ext xs.1) ?_
      rw [nI_dn, (kA xs).2.2.1]
      refine ⟨fun z => absurd z (nI_nl (by omega)), fun _ => ?_⟩
      have gox : ∀ b hh, b ≤ (elems n up).length → X hh → STPS hh M_operator M_left M_right n up c ((op * (elems n up).length + b) * (elems n up).length + 0) → Ev (d + 2) g g m_M_findsSteps 13 [.ref A_M, .int (nI i), .int (nI op), .int (nI b - nI 1)] [] hh (asV Q) := by
        intro b
        induction b with
        | zero =>
          intro hh _ xs st
          refine w_M_findsSteps_13 (A0.1.ext xs.1) ⟨fun _ => ?_, fun z => absurd m1m z⟩
          rw [sub1]
          exact iop hh (by omega) xs st
        | succ x ix =>
          intro hh hx xs st
          refine w_M_findsSteps_13 (A0.1.ext xs.1) ?_
          rw [nI_dn, (kA xs).2.2.1]
          refine ⟨fun z => absurd z (nI_nl (by omega)), fun _ => ?_⟩
          have goy : ∀ dd hh, dd ≤ (elems n up).length → X hh → STPS hh M_operator M_left M_right n up c ((op * (elems n up).length + x) * (elems n up).length + dd) → Ev (d + 2) g g m_M_findsSteps 25 [.ref A_M, .int (nI i), .int (nI op), .int (nI x), .int (nI dd - nI 1)] [] hh (asV Q) := by
            intro dd
            induction dd with
            | zero =>
              intro hh _ xs st
              refine w_M_findsSteps_25 (A0.1.ext xs.1) ⟨fun _ => ?_, fun z => absurd m1m z⟩
              rw [sub1]
              exact ix hh (by omega) xs st
            | succ y iy =>
              intro hh hy xs st
              have hxl : x < (elems n up).length := by omega
              have hyl : y < (elems n up).length := by omega
              have cx := (hc0 x hxl).2
              have cy := (hc0 y hyl).2
              have he := rs_lt w (op := op) hxl hyl
              have ce := (hc0 _ he).2
              have tl := tx_lt (n := n) (up := up) (show op < 3 by omega) hxl hyl
              -- nothing fits here
              have off : (∀ e, mtc n up c e ((op * (elems n up).length + x) * (elems n up).length + y) = false) → Ev (d + 2) g g m_M_findsSteps 25 [.ref A_M, .int (nI i), .int (nI op), .int (nI x), .int (nI y - nI 1)] [] hh (asV Q) := fun q => by
                refine iy hh (by omega) xs ?_
                refine STPS.flat (t := (op * (elems n up).length + x) * (elems n up).length + y) (m := 1) st (by omega) fun e k h1 h2 => ?_
                have ek : k = (op * (elems n up).length + x) * (elems n up).length + y := by omega
                rw [ek]
                exact q e
              refine w_M_findsSteps_25 (A0.1.ext xs.1) ?_
              rw [nI_dn, sub1 (nI y), sub1 (nI x), nI_clamp (n := x) (by omega), nI_clamp (n := y) (by omega), kc xs x hxl, kc xs y hyl, cL_N]
              refine ⟨fun z => absurd z (nI_nl (by omega)), fun _ => ⟨vp_in_nI (by omega) (by decide), bl_le (by omega) (by decide) (fun z => ?_) (fun px => ⟨vp_in_nI (by omega) (by decide), ?_⟩)⟩⟩
              · refine ix hh (by omega) xs ?_
                refine STPS.flat (t := (op * (elems n up).length + x) * (elems n up).length + 0) (m := y + 1) ?_ (by omega) fun e k h1 h2 => ?_
                · rw [Nat.add_zero]; exact st
                · have ek : k = (op * (elems n up).length + x) * (elems n up).length + (k - (op * (elems n up).length + x) * (elems n up).length) := by omega
                  rw [ek, mtc_eq (by omega) hxl (by omega), decide_eq_false (by omega)]
                  rfl
              refine (bl_eq (by omega) (by decide) (fun z => off fun e => ?_) (fun z => ?_)).symm
              · rw [mtc_eq (by omega) hxl hyl, show decide (0 < c y) = false from decide_eq_false (by omega), Bool.and_false]
                rfl
              refine S_Mdone (kA xs) hi w (by omega) hxl hyl fun _ => ?_
              have ve : vp_in (nI (rsN n up op x y)) 64 := vp_in_nI (by omega) (by decide)
              rw [nI_clamp (n := rsN n up op x y) (by omega), kc xs _ he, kc xs x hxl, kc xs y hyl, cL_N, lN_add, lN_add]
              refine ⟨ve, vp_in_nI (by omega) (by decide), vp_in_nI (by omega) (by decide), bl_eq (by omega) (by omega) (fun z2 => ⟨ve, ve, ve, ?_⟩) (fun z2 => off fun e => ?_)⟩
              · refine iy _ (by omega) ⟨((xs.1.trans (ext_wi _ _ _ _)).trans (ext_wi _ _ _ _)).trans (ext_wi _ _ _ _), ((xs.2.wi (fun q => q (by decide))).wi (fun q => q (by decide))).wi (fun q => q (by decide))⟩ fun e hel => ?_
                have ss := stp_eq (n := n) (up := up) (show op < 3 by omega) hxl hyl
                by_cases q : e = rsN n up op x y
                · subst q
                  have hit : mtc n up c (rsN n up op x y) ((op * (elems n up).length + x) * (elems n up).length + y) = true := by
                    rw [mtc_eq (by omega) hxl hyl, decide_eq_true px, decide_eq_true (by omega : 0 < c y)]
                    simp [z2]
                  have fe : ffn (mtc n up c (rsN n up op x y)) (tT (elems n up).length - ((op * (elems n up).length + x) * (elems n up).length + y)) ((op * (elems n up).length + x) * (elems n up).length + y) = (op * (elems n up).length + x) * (elems n up).length + y := by
                    rw [show tT (elems n up).length - ((op * (elems n up).length + x) * (elems n up).length + y) = tT (elems n up).length - ((op * (elems n up).length + x) * (elems n up).length + y) - 1 + 1 by omega]
                    show (bif mtc n up c (rsN n up op x y) ((op * (elems n up).length + x) * (elems n up).length + y) then _ else _) = _
                    rw [hit]
                    rfl
                  rw [fe, ss.1, ss.2.1, ss.2.2]
                  refine ⟨?_, ?_, ?_⟩
                  · rw [mi_ne (by decide), mi_ne (by decide), mi_eq]
                  · rw [mi_ne (by decide), mi_eq]
                  · exact mi_eq
                · have no : mtc n up c e ((op * (elems n up).length + x) * (elems n up).length + y) = false := by
                    rw [mtc_eq (by omega) hxl hyl, show (rsN n up op x y == e) = false by simpa using fun z => q z.symm, Bool.and_false]
                    rfl
                  have fl := ffn_flat (P := mtc n up c e) (T := tT (elems n up).length) (t := (op * (elems n up).length + x) * (elems n up).length + y) 1 (by omega) fun k h1 h2 => by
                    have : k = (op * (elems n up).length + x) * (elems n up).length + y := by omega
                    rw [this]; exact no
                  rw [fl]
                  have sx := st e hel
                  refine ⟨?_, ?_, ?_⟩
                  · rw [mi_ne (by decide), mi_ne (by decide), mi_nj q]; exact sx.1
                  · rw [mi_ne (by decide), mi_nj q, mi_ne (by decide)]; exact sx.2.1
                  · rw [mi_nj q, mi_ne (by decide), mi_ne (by decide)]; exact sx.2.2
              · rw [mtc_eq (by omega) hxl hyl]
                by_cases q : rsN n up op x y = e
                · subst q
                  rw [show (c (rsN n up op x y) == 1 + c x + c y) = false by simpa using z2, Bool.and_false]
                · rw [show (rsN n up op x y == e) = false by simpa using q, Bool.and_false]
                  rfl
          refine goy _ hh (Nat.le_refl _) xs ?_
          have e1 : (op * (elems n up).length + x) * (elems n up).length + (elems n up).length = (op * (elems n up).length + (x + 1)) * (elems n up).length + 0 := idx_r (c := cN (elems n up).length)
          rw [e1]
          exact st
      refine gox _ hh (Nat.le_refl _) xs ?_
      have e1 : (op * (elems n up).length + (elems n up).length) * (elems n up).length + 0 = ((op + 1) * (elems n up).length + 0) * (elems n up).length + 0 := idx_q (c := cN (elems n up).length)
      rw [e1]
      exact st
  have e3 : nI 3 - nI 1 = nI 2 := nI_dn
  have kk := go 3 h (Nat.le_refl _) ⟨Ext.rfl', sm.rf⟩ fun e he => by
    have hs := hs0 e he
    rw [← top, Nat.sub_self]
    show mi h M_operator e = sOp (elems n up).length (tT (elems n up).length) ∧ mi h M_left e = sLe (elems n up).length (tT (elems n up).length) ∧ mi h M_right e = sRi (elems n up).length (tT (elems n up).length)
    unfold sOp sLe sRi
    rw [if_neg (Nat.lt_irrefl _), if_neg (Nat.lt_irrefl _), if_neg (Nat.lt_irrefl _)]
    exact hs
  rw [e3] at kk
  exact kk
end GENS
/-! what generate leaves -/
noncomputable def gC (n : Nat) (up : Nat → Nat) (G : List Nat) (e : Nat) : Nat := haveI := Classical.propDecidable (∃ c, SOL n up G c); if h : ∃ c, SOL n up G c then (if e < (elems n up).length then h.choose e else 0) else 0
theorem gC_eq {n : Nat} {up : Nat → Nat} {G : List Nat} {c : Nat → Nat} (w : wfP n up) (A : SOL n up G c) : (∀ e, e < (elems n up).length → gC n up G e = c e) ∧ ∀ e, gC n up G e < 2 ^ 60 := by
  have hx : ∃ c, SOL n up G c := ⟨c, A⟩
  have hl := elems_len (up := up) w.1.2
  have e1 : ∀ e, e < (elems n up).length → gC n up G e = c e := fun e he => by
    unfold gC
    rw [dif_pos hx, if_pos he]
    exact SOL.eq w hx.choose_spec A he
  refine ⟨e1, fun e => ?_⟩
  by_cases he : e < (elems n up).length
  · rw [e1 e he]; exact A.1.lt hl e he
  · unfold gC
    rw [dif_pos hx, if_neg he]
    decide
noncomputable def gD (n : Nat) (up : Nat → Nat) (G : List Nat) : FT := ((elems n up).length, gC n up G, fun e => sOp (elems n up).length (ffn (mtc n up (gC n up G) e) (tT (elems n up).length) 0), fun e => sLe (elems n up).length (ffn (mtc n up (gC n up G) e) (tT (elems n up).length) 0), fun e => sRi (elems n up).length (ffn (mtc n up (gC n up G) e) (tT (elems n up).length) 0))
noncomputable def gK (n : Nat) (up : Nat → Nat) (G : List Nat) : Nat := ck (fun e => decide (0 < gC n up G e)) (elems n up).length
noncomputable def oGnr2 (S : St) (i : Nat) : Int32 × St := haveI := Classical.propDecidable (∀ e, e ∈ sG S → e < (pE (sP S i)).length); if ∀ e, e ∈ sG S → e < (pE (sP S i)).length then (nI (gK (sP S i).1 (sP S i).2.1 (sG S)), setD S (gD (sP S i).1 (sP S i).2.1 (sG S))) else (kE2, S)
noncomputable def oGnr (S : St) (v : Int32) : Int32 × St := match ix v 4 with
  | none => (m1, S)
  | some i => oGnr2 S i
theorem oGnr_n {S : St} {v : Int32} (e : ix v 4 = none) : oGnr S v = (m1, S) := by unfold oGnr; rw [e]
theorem oGnr_s {S : St} {v : Int32} {i : Nat} (e : ix v 4 = some i) : oGnr S v = oGnr2 S i := by unfold oGnr; rw [e]
theorem oGnr2_n {S : St} {i : Nat} (h : ¬ ∀ e, e ∈ sG S → e < (pE (sP S i)).length) : oGnr2 S i = (kE2, S) := if_neg h
theorem oGnr2_s {S : St} {i : Nat} (h : ∀ e, e ∈ sG S → e < (pE (sP S i)).length) : oGnr2 S i = (nI (gK (sP S i).1 (sP S i).2.1 (sG S)), setD S (gD (sP S i).1 (sP S i).2.1 (sG S))) := if_pos h
theorem mtc_congr {n : Nat} {up c c2 : Nat → Nat} (w : wfP n up) (h : ∀ e, e < (elems n up).length → c e = c2 e) {e : Nat} (he : e < (elems n up).length) (t : Nat) : mtc n up c e t = mtc n up c2 e t := by
  have hN : 0 < (elems n up).length := by have := (el_top w).2; omega
  have d1 : dgt (cN (elems n up).length) t 1 < (elems n up).length := Nat.mod_lt _ hN
  have d2 : dgt (cN (elems n up).length) t 2 < (elems n up).length := Nat.mod_lt _ hN
  unfold mtc
  rw [h _ d1, h _ d2, h e he]
theorem ffn_congr {P Q : Nat → Bool} (h : ∀ k, P k = Q k) : ∀ m k, ffn P m k = ffn Q m k
  | 0, _ => rfl
  | m + 1, k => by
    show (bif P k then k else ffn P m (k + 1)) = (bif Q k then k else ffn Q m (k + 1))
    rw [h k, ffn_congr h m (k + 1)]
section GENO
variable {d g : Nat} {h : AH} {S : St} {K : Int32 → AH → Prop} {v : Int32}
theorem WS.gD {S : St} (W : WS S) {i : Nat} {c : Nat → Nat} (hi : i < 4) (A : SOL (sP S i).1 (sP S i).2.1 (sG S) c) : WS (setD S (gD (sP S i).1 (sP S i).2.1 (sG S))) := by
  have w := (W.1 i hi).1
  refine ⟨W.1, W.2.1, W.2.2.1, W.2.2.2.1, ⟨elems_len (up := (sP S i).2.1) w.1.2, fun k => ?_⟩, W.2.2.2.2.2⟩
  exact Nat.lt_trans ((gC_eq w A).2 k) (by decide)
theorem gen_in {S : St} (W : WS S) {h1 : AH} (I : InvM h1 S) {k : Nat} (hk : k < (sG S).length) : mi h1 M_generators k = nI ((sG S).getD k 0) ∧ (sG S).getD k 0 < 64 ∧ (sG S).getD k 0 ∈ sG S := ⟨I.2.2.2.2.1.2 k hk, W.2.2.2.1.2 _ (getD_mem hk), getD_mem hk⟩
theorem mem_getD {L : List Nat} {e : Nat} (h : e ∈ L) : ∃ k, k < L.length ∧ L.getD k 0 = e := ⟨L.idxOf e, idx_lt h, getD_idx h⟩
theorem M_genRun {i : Nat} (hi : i < 4) (W : WS S) {h1 : AH} (I : InvM h1 S) (A0 : GMH h1 i (sP S i).1 (sP S i).2.1) (hG : ∀ e, e ∈ sG S → e < (pE (sP S i)).length) (hK : ∀ c h2, SOL (sP S i).1 (sP S i).2.1 (sG S) c → doneM (setD S (gD (sP S i).1 (sP S i).2.1 (sG S))) h1 h2 → K (nI (gK (sP S i).1 (sP S i).2.1 (sG S))) h2) : Ev (d + 3) g g m_M_generate 52 [.ref A_M, .int (nI i), .int (nI 0)] [] (wi h1 A_M 26 (mi h1 A_M 5)) (asI K) := by
  have w := (W.1 i hi).1
  have h6 := w.1.2
  have hl : (pE (sP S i)).length ≤ 64 := elems_len (up := (sP S i).2.1) h6
  have hN : 2 ≤ (pE (sP S i)).length := (el_top w).2
  have gl := W.2.2.2.1.1
  let X : AH → Prop := fun hh => Ext h1 hh ∧ sm (fun q z => ¬ (q = 73 ∧ z = 26) ∧ ¬ (87 ≤ q ∧ q ≤ 90)) h1 hh ∧ mi hh A_M 26 = nI (pE (sP S i)).length
  have kA : ∀ {hh}, X hh → GMH hh i (sP S i).1 (sP S i).2.1 := fun xs => A0.keep xs.1 xs.2.1
  have kG : ∀ {hh}, X hh → mi hh A_M 25 = nI (sG S).length ∧ ∀ k, k < (sG S).length → mi hh M_generators k = nI ((sG S).getD k 0) := fun xs => ⟨(xs.2.1 _ _ ⟨fun q => absurd q.2 (by decide), by decide⟩).1.trans I.2.2.2.2.1.1, fun k hk => (xs.2.1 _ _ ⟨fun q => absurd q.1 (by decide), by decide⟩).1.trans (I.2.2.2.2.1.2 k hk)⟩
  have m5 : mi h1 A_M 5 = nI (pE (sP S i)).length := A0.2.2.1
  let Z : AH → Prop := fun hh => ∀ e, e < (pE (sP S i)).length → mi hh M_operator e = nI 3 ∧ mi hh M_left e = kNone ∧ mi hh M_right e = kNone
  -- the start
  refine for_up (σ := AH) (fun k hh => Ev (d + 3) g g m_M_generate 52 [.ref A_M, .int (nI i), .int (nI k)] [] hh (asI K)) (fun k hh => X hh ∧ ∀ e, e < k → ml hh M_cost e = lN (if e = 0 ∨ e = (pE (sP S i)).length - 1 then 1 else 0) ∧ mi hh M_operator e = nI 3 ∧ mi hh M_left e = kNone ∧ mi hh M_right e = kNone) 64 (fun hh hI => ?_) (fun k hh hk hI ih => ?_) 0 _ (Nat.zero_le _) ?_
  · obtain ⟨xs, hz⟩ := hI
    refine w_M_generate_52 (I.1.ext xs.1) (br_le 64 64 rfl rfl (fun _ => ?_) (fun z => by omega))
    -- the generators
    refine for_up (σ := AH) (fun k hh => Ev (d + 3) g g m_M_generate 114 [.ref A_M, .int (nI i), .int (nI k)] [] hh (asI K)) (fun k hh => X hh ∧ Z hh ∧ ∀ e, e < (pE (sP S i)).length → ml hh M_cost e = lN (if e = 0 ∨ e = (pE (sP S i)).length - 1 ∨ ∃ j, j < k ∧ (sG S).getD j 0 = e then 1 else 0)) (sG S).length (fun hh hI => ?_) (fun k hh hk hI ih => ?_) 0 hh (Nat.zero_le _) ⟨xs, fun e he => (hz e (by omega)).2, fun e he => ?_⟩
    · obtain ⟨xs, zs, hc⟩ := hI
      refine w_M_generate_114 (I.1.ext xs.1) ?_
      rw [(kG xs).1]
      refine br_le _ _ rfl rfl (fun _ => ?_) (fun z => by omega)
      have hc1 : ∀ e, e < (pE (sP S i)).length → ml hh M_cost e = lN (c00 (sP S i).1 (sP S i).2.1 (sG S) e) := fun e he => by
        rw [hc e he]
        unfold c00
        have q : (e = 0 ∨ e = (pE (sP S i)).length - 1 ∨ ∃ j, j < (sG S).length ∧ (sG S).getD j 0 = e) ↔ (e = 0 ∨ e = (pE (sP S i)).length - 1 ∨ e ∈ sG S) := ⟨fun z => z.imp id fun z => z.imp id fun ⟨j, h1, h2⟩ => h2 ▸ getD_mem h1, fun z => z.imp id fun z => z.imp id fun h1 => mem_getD h1⟩
        by_cases q2 : e = 0 ∨ e = (pE (sP S i)).length - 1 ∨ e ∈ sG S
        · rw [if_pos q2, if_pos (q.mpr q2)]
        · rw [if_neg q2, if_neg (fun z => q2 (q.mp z))]
      -- lowering, until nothing is lower
      have low : ∀ m c hh, phi c (pE (sP S i)).length = m → X hh → Z hh → (∀ e, e < (pE (sP S i)).length → ml hh M_cost e = lN (c e)) → INV (sP S i).1 (sP S i).2.1 (sG S) c → Ev (d + 3) g g m_M_generate 142 [.ref A_M, .int (nI i), .int (nI 1)] [] hh (asI K) := by
        intro m
        induction m using Nat.strongRecOn with
        | _ m ihm =>
          intro c hh hm xs zs hc J
          have kX : ∀ {h2}, Ext hh h2 → sm (fun q _ => q ≠ 90) hh h2 → X h2 ∧ Z h2 := fun e2 s2 => ⟨⟨xs.1.trans e2, xs.2.1.trans (s2.sub fun q z hq => by omega), (s2 _ _ (by show (73 : Nat) ≠ 90; decide)).1.trans xs.2.2⟩, fun e he => ⟨(s2 _ _ (by show (87 : Nat) ≠ 90; decide)).1.trans (zs e he).1, (s2 _ _ (by show (88 : Nat) ≠ 90; decide)).1.trans (zs e he).2.1, (s2 _ _ (by show (89 : Nat) ≠ 90; decide)).1.trans (zs e he).2.2⟩⟩
          refine w_M_generate_142 (I.1.ext xs.1) ⟨fun z => absurd z (by decide), fun _ => S_Mlowers (kA xs) (by omega) w hc J (fun cl h2 e2 s2 hc2 _ => ?_) (fun c2 h2 e2 s2 hc2 J2 lt _ => ?_)⟩
          · obtain ⟨xs2, zs2⟩ := kX e2 s2
            have A : SOL (sP S i).1 (sP S i).2.1 (sG S) c := ⟨J, cl⟩
            have ge := gC_eq w A
            have cb := J.lt hl
            refine w_M_generate_142 (I.1.ext xs2.1) ⟨fun _ => ?_, fun z => absurd rfl z⟩
            refine S_MfindsSteps (c := c) (kA xs2) (by omega) w (fun e he => ⟨hc2 e he, cb e he⟩) zs2 fun h3 e3 s3 st _ => ?_
            have xs3 : Ext h1 h3 ∧ sm (fun q z => ¬ (q = 73 ∧ z = 26) ∧ ¬ (87 ≤ q ∧ q ≤ 90)) h1 h3 ∧ mi h3 A_M 26 = nI (pE (sP S i)).length := ⟨xs2.1.trans e3, xs2.2.1.trans (s3.sub fun q z hq => by omega), (s3 _ _ (by show ¬ (87 ≤ 73 ∧ 73 ≤ 89); decide)).1.trans xs2.2.2⟩
            have hc3 : ∀ e, e < (pE (sP S i)).length → ml h3 M_cost e = lN (c e) := fun e he => (s3 _ _ (by show ¬ (87 ≤ 90 ∧ 90 ≤ 89); decide)).2.trans (hc2 e he)
            have dn : doneM (setD S (gD (sP S i).1 (sP S i).2.1 (sG S))) h1 h3 := by
              refine ⟨InvM.atD W I xs3.1 (xs3.2.1.sub fun q z hq => hq.2) ⟨?_, fun k hk => ?_⟩, xs3.1, xs3.2.1.sub fun q z hq => by omega⟩
              · show mi h3 A_M 26 = if (pE (sP S i)).length = 0 then m1 else nI (pE (sP S i)).length
                rw [if_neg (by omega)]
                exact xs3.2.2
              · have hk : k < (pE (sP S i)).length := hk
                have sk := st k hk
                rw [Nat.sub_zero] at sk
                have fc : ffn (mtc (sP S i).1 (sP S i).2.1 c k) (tT (elems (sP S i).1 (sP S i).2.1).length) 0 = ffn (mtc (sP S i).1 (sP S i).2.1 (gC (sP S i).1 (sP S i).2.1 (sG S)) k) (tT (elems (sP S i).1 (sP S i).2.1).length) 0 := ffn_congr (fun t => mtc_congr w (fun e he => (ge.1 e he).symm) hk t) _ _
                rw [fc] at sk
                exact ⟨by rw [hc3 k hk]; show lN (c k) = lN (gC _ _ _ k); rw [ge.1 k hk], sk.1, sk.2.1, sk.2.2⟩
            have m53 : mi h3 A_M 5 = nI (pE (sP S i)).length := (kA xs3).2.2.1
            -- the count
            refine for_up (σ := Unit) (fun k _ => Ev (d + 3) g g m_M_generate 165 [.ref A_M, unk, unk, .int (nI (ck (fun e => decide (0 < gC (sP S i).1 (sP S i).2.1 (sG S) e)) k)), .int (nI k)] [] h3 (asI K)) (fun _ _ => True) (pE (sP S i)).length (fun _ _ => ?_) (fun k _ hk _ ih => ?_) 0 () (Nat.zero_le _) trivial
            · refine w_M_generate_165 (I.1.ext xs3.1) ?_
              rw [m53]
              exact br_le _ _ rfl rfl (fun _ => hK c h3 A dn) (fun z => by omega)
            · have i1 := ih () trivial
              unfold ck at i1
              have ck1 := cb k hk
              have gk := ge.1 k hk
              refine w_M_generate_165 (I.1.ext xs3.1) ?_
              rw [m53, nI_clamp (n := k) (by omega), hc3 k hk, cL_N, nI_add k 1, nI_add _ 0, nI_add _ 1]
              refine br_le _ k rfl rfl (fun z => by omega) (fun _ => ⟨vp_in_nI (by omega) (by decide), bl_le (by omega) (by decide) (fun z => ?_) (fun z => ?_)⟩)
              · rw [show decide (0 < gC (sP S i).1 (sP S i).2.1 (sG S) k) = false from decide_eq_false (by omega)] at i1
                exact i1
              · rw [show decide (0 < gC (sP S i).1 (sP S i).2.1 (sG S) k) = true from decide_eq_true (by omega)] at i1
                exact i1
          · obtain ⟨xs2, zs2⟩ := kX e2 s2
            exact ihm _ (by rw [← hm]; exact lt) c2 h2 rfl xs2 zs2 hc2 J2
      exact low _ _ hh rfl xs zs hc1 (c00_INV w)
    · obtain ⟨xs, zs, hc⟩ := hI
      have gk := gen_in W I hk
      have gl2 := hG _ gk.2.2
      refine w_M_generate_114 (I.1.ext xs.1) ?_
      rw [(kG xs).1, nI_clamp (n := k) (by omega), (kG xs).2 k hk, nI_clamp (n := (sG S).getD k 0) (by omega), cL_N, nI_add]
      refine br_le _ k rfl rfl (fun z => by omega) (fun _ => ⟨vp_in_nI (by omega) (by decide), vp_in_nI (by omega) (by decide), ih _ ⟨⟨xs.1.trans (ext_wl _ _ _ _), xs.2.1.wl (fun q => q.2 (by decide)), xs.2.2⟩, zs, fun e he => ?_⟩⟩)
      rw [ml_wl]
      by_cases q : e = (sG S).getD k 0
      · rw [if_pos ⟨rfl, q⟩, if_pos (Or.inr (Or.inr ⟨k, by omega, q.symm⟩))]
      · rw [if_neg (fun z => q z.2), hc e he]
        by_cases q2 : e = 0 ∨ e = (pE (sP S i)).length - 1 ∨ ∃ j, j < k ∧ (sG S).getD j 0 = e
        · rw [if_pos q2, if_pos (q2.imp id fun z => z.imp id fun ⟨j, h1, h2⟩ => ⟨j, by omega, h2⟩)]
        · rw [if_neg q2, if_neg (fun z => q2 (z.imp id fun z => z.imp id fun ⟨j, h1, h2⟩ => ⟨j, by
            by_cases q3 : j = k
            · subst q3; exact absurd h2.symm q
            · omega, h2⟩))]
    · rw [(hz e (by omega)).1]
      by_cases q : e = 0 ∨ e = (pE (sP S i)).length - 1
      · rw [if_pos q, if_pos (q.imp id fun z => Or.inl z)]
      · rw [if_neg q, if_neg (fun z => q (z.imp id fun z => z.elim id fun ⟨j, h1, h2⟩ => by omega))]
  · obtain ⟨xs, hz⟩ := hI
    have v64 : vp_in (nI k) 64 := vp_in_nI hk (by decide)
    have on : ∀ u, u = (if k = 0 ∨ k = (pE (sP S i)).length - 1 then 1 else 0) → Ev (d + 3) g g m_M_generate 52 [.ref A_M, .int (nI i), .int (nI k + nI 1)] [] (wi (wi (wi (wl hh M_cost k (lN u)) M_operator k (nI 3)) M_left k kNone) M_right k kNone) (asI K) := fun u hu => by
      subst hu
      rw [nI_add]
      refine ih _ ⟨⟨(((xs.1.trans (ext_wl _ _ _ _)).trans (ext_wi _ _ _ _)).trans (ext_wi _ _ _ _)).trans (ext_wi _ _ _ _), (((xs.2.1.wl (fun q => q.2 (by decide))).wi (fun q => q.2 (by decide))).wi (fun q => q.2 (by decide))).wi (fun q => q.2 (by decide)), ?_⟩, fun e he => ?_⟩
      · rw [mi_ne (by decide), mi_ne (by decide), mi_ne (by decide), mi_wl]
        exact xs.2.2
      · by_cases q : e = k
        · subst q
          refine ⟨?_, ?_, ?_, ?_⟩
          · rw [ml_wi, ml_wi, ml_wi, ml_wl, if_pos ⟨rfl, rfl⟩]
          · rw [mi_ne (by decide), mi_ne (by decide), mi_eq]
          · rw [mi_ne (by decide), mi_eq]
          · exact mi_eq
        · obtain ⟨z1, z2, z3, z4⟩ := hz e (by omega)
          refine ⟨?_, ?_, ?_, ?_⟩
          · rw [ml_wi, ml_wi, ml_wi, ml_wl, if_neg (fun z => q z.2)]; exact z1
          · rw [mi_ne (by decide), mi_ne (by decide), mi_nj q, mi_wl]; exact z2
          · rw [mi_ne (by decide), mi_nj q, mi_ne (by decide), mi_wl]; exact z3
          · rw [mi_nj q, mi_ne (by decide), mi_ne (by decide), mi_wl]; exact z4
    have m5' : mi hh A_M 5 = nI (pE (sP S i)).length := (kA xs).2.2.1
    refine w_M_generate_52 (I.1.ext xs.1) ?_
    rw [m5', pk_sub (by omega), nI_clamp (n := k) (by omega), cL_N, cL_N]
    refine br_le 64 k rfl rfl (fun z => by omega) (fun _ => br_eq k 0 rfl rfl (fun z => ⟨v64, v64, v64, v64, on 1 (by rw [if_pos (Or.inl z)])⟩) (fun z => br_ne k ((pE (sP S i)).length - 1) rfl rfl (fun z2 => ⟨v64, v64, v64, v64, on 1 (by rw [if_pos (Or.inr z2)])⟩) (fun z2 => ⟨v64, v64, v64, v64, on 0 (by rw [if_neg (fun q => q.elim z z2)])⟩)))
  · exact ⟨⟨ext_wi _ _ _ _, sm.rf.wi (fun q => q.1 ⟨rfl, rfl⟩), by rw [mi_eq, m5]⟩, fun e he => by omega⟩
theorem M_generate (W : WS S) (I : InvM h S) (hK : ∀ h1, doneM (oGnr S v).2 h h1 → K (oGnr S v).1 h1) : Ev (d + 3) g g m_M_generate 0 [.ref A_M, .int v] [] h (asI K) := by
  refine w_M_generate_0 I.1 (S_fnd' W I (fun e => by rw [oGnr_n e] at hK; exact hK h (doneM.rf I)) (fun i hi hv e h1 dn el => ?_))
  subst hv
  rw [oGnr_s e] at hK
  have w := (W.1 i hi).1
  have h6 := w.1.2
  have hl : (pE (sP S i)).length ≤ 64 := elems_len (up := (sP S i).2.1) h6
  have gl := W.2.2.2.1.1
  refine for_up (σ := Unit) (fun k _ => Ev (d + 3) g g m_M_generate 12 [.ref A_M, .int (nI i), .int (nI k)] [] h1 (asI K)) (fun k _ => ∀ j, j < k → (sG S).getD j 0 < (pE (sP S i)).length) (sG S).length (fun _ hI => ?_) (fun k _ hk hI ih => ?_) 0 () (Nat.zero_le _) (fun j hj => by omega)
  · have hG : ∀ e, e ∈ sG S → e < (pE (sP S i)).length := fun e he => by
      obtain ⟨k, hk, q⟩ := mem_getD he
      rw [← q]
      exact hI k hk
    rw [oGnr2_s hG] at hK
    refine w_M_generate_12 dn.1.1 ?_
    rw [dn.1.2.2.2.2.1.1]
    refine br_le _ _ rfl rfl (fun _ => ?_) (fun z => by omega)
    exact M_genRun hi W dn.1 ⟨dn.1.1, (dn.1.2.1 i hi).1, el⟩ hG fun c h2 _ dn2 => hK h2 (dn.tr dn2)
  · have gk := gen_in W dn.1 hk
    refine w_M_generate_12 dn.1.1 ?_
    rw [dn.1.2.2.2.2.1.1, nI_clamp (n := k) (by omega), gk.1, nI_add]
    refine br_le _ k rfl rfl (fun z => by omega) (fun _ => ⟨vp_in_nI (by omega) (by decide), S_MisElement dn.1.1 el.1 hl fun _ => br_nb (fun e1 => ?_) (fun e1 => ?_)⟩)
    · have no : ¬ ∀ e, e ∈ sG S → e < (pE (sP S i)).length := fun q => by
        rw [ix_nI (q _ gk.2.2) (by omega)] at e1
        cases e1
      rw [oGnr2_n no] at hK
      exact hK h1 dn
    · refine ih () fun j hj => ?_
      by_cases q : j = k
      · subst q
        obtain ⟨x, ex⟩ := Option.isSome_iff_exists.mp e1
        have q1 := ix_some ex
        have := nI_inj (by omega) (by omega) q1.2
        omega
      · exact hI j (by omega)
end GENO

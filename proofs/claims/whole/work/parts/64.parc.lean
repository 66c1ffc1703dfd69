section PARC
variable {h0 : AH} {d g N : Nat} {K : Int32 → AH → Prop}
theorem S_readLoop (f0 : is_T h0 A_text) (hN : N ≤ 40) (h5 : mi h0 A_text 0 = nI N) : ∀ (t : List Nat) (i : Nat) (b : Bool) (W D : List Nat) (h : AH), i + t.length = N → (∀ y, y < t.length → mi h0 (A_text + 1) (i + y) = nI (t.getD y 0)) → (∀ c, c ∈ t → c ≤ 126) → wfW W → (b = false → tpc W ≤ 7) → D.length + W.length ≤ i → RC h0 h W D (W.count 0) (W.count 0 + W.count 8) (if b = true then 1 else 0) → (∀ j h1, rd rC t i b W D = .inl j → RCx h0 h1 → K (nI j) h1) → (∀ D' h1, rd rC t i b W D = .inr D' → RCx h0 h1 → (mi h1 A_text 2 = nI D'.length ∧ ∀ y, y < D'.length → mi h1 (A_text + 2) y = nI (D'.getD y 0)) → K m1 h1) → Ev (d + 4) g g m_T_readFormula 27 [.ref A_text, .int (nI i)] [] h (asI K)
  | [], i, b, W, D, h, hi, _, _, w, ht, hl, r, hE, hO => by
    have hi : i = N := hi
    subst hi
    have c0 : W.count 0 ≤ W.length := List.count_le_length
    have e0 : mi h A_text 0 = nI i := ((r.1.2 A_text 0 ⟨fun _ => rfl, by decide, by decide⟩).1).trans h5
    refine w_T_readFormula_27 (f0.ext r.1.1) ?_
    rw [e0]
    refine br_le i i rfl rfl (fun _ => ?_) (fun z => by omega)
    cases b with
    | true => exact ⟨fun _ => hE i h rfl r.1, fun q => absurd (r.2.2.2.2.2.symm.trans q) (by decide)⟩
    | false =>
      refine ⟨fun q => absurd r.2.2.2.2.2 q, fun _ => ?_⟩
      refine br_le (W.count 0) 0 r.2.2.2.1 rfl (fun z => ?_) (fun z => hE i h (rd_end (G := rC) (show ¬ W.count 0 = 0 by omega)) r.1)
      exact S_release (j := 0) (by decide) f0 W D h r (by omega) (fun e he => by have := wfW_mem w e he; omega) fun h1 r1 _ => hO _ h1 (rd_end0 (G := rC) (show W.count 0 = 0 by omega)) r1.1 r1.2.1
  | c :: t, i, b, W, D, h, hi, hx, h126, w, ht, hl, r, hE, hO => by
    have hi : i + (t.length + 1) = N := hi
    have c0 : W.count 0 ≤ W.length := List.count_le_length
    have e0 : mi h A_text 0 = nI N := ((r.1.2 A_text 0 ⟨fun _ => rfl, by decide, by decide⟩).1).trans h5
    have ec : mi h (A_text + 1) i = nI c := ((r.1.2 (A_text + 1) i ⟨fun q => absurd q (by decide), by decide, by decide⟩).1).trans (hx 0 (Nat.succ_pos _))
    have hc := h126 c (by simp)
    have hx' : ∀ y, y < t.length → mi h0 (A_text + 1) (i + 1 + y) = nI (t.getD y 0) := fun y hy => by
      have := hx (y + 1) (Nat.succ_lt_succ hy)
      rw [show i + (y + 1) = i + 1 + y by omega] at this
      exact this
    have h126' : ∀ c, c ∈ t → c ≤ 126 := fun e he => h126 e (List.mem_cons_of_mem _ he)
    refine w_T_readFormula_27 (f0.ext r.1.1) ?_
    rw [e0, nI_clamp (n := i) (by omega), ec, nI_add i 1]
    refine br_le N i rfl rfl (fun z => by omega) (fun _ => ?_)
    cases b with
    | true =>
      refine ⟨fun q => absurd (r.2.2.2.2.2.symm.trans q) (by decide), fun _ => ⟨vp_in_nI (by omega) (by decide), ?_⟩⟩
      refine S_takeIn hc f0 w r (by omega) (fun a h1 e r1 _ => ⟨fun _ => ?_, fun q => absurd q (by decide)⟩) (fun h1 e q r1 _ => ⟨fun _ => ?_, fun q => absurd q (by decide)⟩) (fun e q _ => ⟨fun q => absurd rfl q, fun _ => ?_⟩)
      · rw [rd_leaf (G := rC) e] at hE hO
        have ln := popp_len (p := rC.pn) W (D ++ [a])
        have cz := popp_cz (p := rC.pn) (z := 0) rfl W (D ++ [a])
        rw [← cz] at r1
        have la : (D ++ [a]).length = D.length + 1 := by rw [List.length_append]; rfl
        refine S_readLoop f0 hN h5 t (i + 1) false _ _ h1 (by omega) hx' h126' (wfW_pop _ _ w) (fun _ => ?_) (by omega) r1 hE hO
        have wp := wfW_pop (p := rC.pn) W (D ++ [a]) w
        rcases tp_pop (p := rC.pn) W (D ++ [a]) with z | z
        · rw [z]; exact Nat.zero_le _
        · revert z wp
          generalize (popp rC.pn W (D ++ [a])).1 = W2
          intro wp z
          have z := of_decide_eq_false z
          match W2, wp, z with
          | [], _, _ => exact Nat.zero_le _
          | k :: W3, wp, z =>
            have z : ¬ k = 8 := z
            have : k = 0 ∨ (5 ≤ k ∧ k ≤ 8) := wp.1
            show k ≤ 7
            omega
      · have e2 : rd rC (c :: t) i true W D = rd rC t (i + 1) true ((if c = 40 then 0 else 8) :: W) D := by rw [rd_pre (G := rC) e]; exact if_pos q
        rw [e2] at hE hO
        refine S_readLoop f0 hN h5 t (i + 1) true ((if c = 40 then 0 else 8) :: W) D h1 (by omega) hx' h126' ⟨?_, ?_, w⟩ (fun q => by cases q) (by show D.length + (W.length + 1) ≤ i + 1; omega) r1 hE hO
        · split <;> omega
        · split <;> omega
      · exact hE i h (by rw [rd_pre (G := rC) e]; exact if_neg q) r.1
    | false =>
      refine ⟨fun _ => ⟨vp_in_nI (by omega) (by decide), ?_⟩, fun q => absurd r.2.2.2.2.2 q⟩
      refine S_takeBehind hc f0 w (ht rfl) r (by omega) (fun h1 z q r1 _ => ⟨fun _ => ?_, fun q => absurd q (by decide)⟩) (fun k h1 z e r1 _ => ⟨fun _ => ?_, fun q => absurd q (by decide)⟩) (fun z q _ => ⟨fun q => absurd rfl q, fun _ => ?_⟩) (fun z e _ => ⟨fun q => absurd rfl q, fun _ => ?_⟩)
      · subst z
        rw [rd_cl (G := rC) q] at hE hO
        have hp := pop_pc (D := D) w q
        have l1 := popp_len (p := rC.pc) W D
        have w1 := wfW_pop (p := rC.pc) W D w
        revert hp l1 w1 r1 hE hO
        show (RC h0 h1 (popp rC.pn (popp rC.pc W D).1.tail (popp rC.pc W D).2).1 (popp rC.pn (popp rC.pc W D).1.tail (popp rC.pc W D).2).2 ((popp rC.pc W D).1.tail.count 0) ((popp rC.pn (popp rC.pc W D).1.tail (popp rC.pc W D).2).1.count 0 + (popp rC.pn (popp rC.pc W D).1.tail (popp rC.pc W D).2).1.count 8) 0) → _
        generalize popp rC.pc W D = s
        obtain ⟨W2, D2⟩ := s
        show RC h0 h1 (popp rC.pn W2.tail D2).1 (popp rC.pn W2.tail D2).2 (W2.tail.count 0) ((popp rC.pn W2.tail D2).1.count 0 + (popp rC.pn W2.tail D2).1.count 8) 0 → (∀ j h1, rd rC t (i + 1) false (popp rC.pn W2.tail D2).1 (popp rC.pn W2.tail D2).2 = .inl j → RCx h0 h1 → K (nI j) h1) → (∀ D' h1, rd rC t (i + 1) false (popp rC.pn W2.tail D2).1 (popp rC.pn W2.tail D2).2 = .inr D' → RCx h0 h1 → (mi h1 A_text 2 = nI D'.length ∧ ∀ y, y < D'.length → mi h1 (A_text + 2) y = nI (D'.getD y 0)) → K m1 h1) → W2 = 0 :: W2.tail → D2.length + W2.length = D.length + W.length → wfW W2 → _
        generalize W2.tail = W3
        intro r1 hE hO hp l1 w1
        subst hp
        have l1 : D2.length + (W3.length + 1) = D.length + W.length := l1
        have l2 := popp_len (p := rC.pn) W3 D2
        have cz := popp_cz (p := rC.pn) (z := 0) rfl W3 D2
        rw [← cz] at r1
        refine S_readLoop f0 hN h5 t (i + 1) false _ _ h1 (by omega) hx' h126' (wfW_pop _ _ w1.2.2) (fun _ => ?_) (by omega) r1 hE hO
        have wp := wfW_pop (p := rC.pn) W3 D2 w1.2.2
        rcases tp_pop (p := rC.pn) W3 D2 with z | z
        · rw [z]; exact Nat.zero_le _
        · revert z wp
          generalize (popp rC.pn W3 D2).1 = W4
          intro wp z
          have z := of_decide_eq_false z
          match W4, wp, z with
          | [], _, _ => exact Nat.zero_le _
          | k :: W3, wp, z =>
            have z : ¬ k = 8 := z
            have : k = 0 ∨ (5 ≤ k ∧ k ≤ 8) := wp.1
            show k ≤ 7
            omega
      · rw [rd_op (G := rC) z e] at hE hO
        have k7 := opC_8 e
        have l1 := popp_len (p := rC.po k) W D
        have cz : (popp (rC.po k) W D).1.count 0 = W.count 0 := popp_cz (p := rC.po k) (z := 0) (show decide (k < 0) = false by simp) W D
        have c8 := cnt8_pop (j := k) W D w (ht rfl)
        refine S_readLoop f0 hN h5 t (i + 1) true (k :: (popp (rC.po k) W D).1) _ h1 (by omega) hx' h126' ⟨Or.inr (by omega), fun _ _ => ?_, wfW_pop _ _ w⟩ (fun q => by cases q) (by show _ + (_ + 1) ≤ i + 1; omega) ?_ hE hO
        · rcases tp_pop (p := rC.po k) W D with z | z
          · rw [z]; exact Nat.zero_le _
          · have := of_decide_eq_false z
            omega
        · rw [List.count_cons, List.count_cons, if_neg (by simp; omega), if_neg (by simp; omega), cz, c8]
          exact r1
      · subst z
        exact hE i h (rd_cl0 (G := rC) q) r.1
      · exact hE i h (rd_bad (G := rC) z e) r.1
end PARC
section PARC2
variable {h : AH} {S : St} {v : Int32} {d g : Nat} {K : Int32 → AH → Prop}
theorem neg_pos {j : Nat} (hj : j < 2147483648) : ¬ nI j < (0 : Int32) := nI_nl hj
theorem C_parse (W : WS S) (I : InvC h S) (hK : ∀ h1, doneC (oPar S v).2 h h1 → K (oPar S v).1 h1) : Ev (d + 5) g g m_C_parse 0 [.ref A_x, .int v] [] h (asI K) := by
  have ct := I.2.2.1
  have hl := W.2.1.1
  refine w_C_parse_0 I.1 (S_formulaAt I.1 (fun e => ?_) (fun m hm _ fm e => ⟨fm, ?_⟩))
  · rw [oPar_n e] at hK
    exact hK _ ⟨InvC.atT I (ext_wi _ _ _ _) (sm.rf.wi (fun q => q.2.1 rfl)) ⟨mi_eq, fun i hi => absurd hi (Nat.not_lt_zero i)⟩, ext_wi _ _ _ _, sm.rf.wi (by decide)⟩
  rw [oPar_s e] at hK
  have f0 : is_T h A_text := I.1.p_text
  have emp : ∀ h2, RCx h h2 → InvC (wi h2 A_text 0 (nI 0)) (setT S []) ∧ Ext h (wi h2 A_text 0 (nI 0)) ∧ FrM h (wi h2 A_text 0 (nI 0)) := fun h2 r => by
    refine ⟨InvC.atT I (r.1.trans (ext_wi _ _ _ _)) ((r.2.sub fun q j hq => ?_).wi (fun q => q.2.1 rfl)) ⟨mi_eq, fun i hi => absurd hi (Nat.not_lt_zero i)⟩, r.1.trans (ext_wi _ _ _ _), (r.2.sub fun q j hq => ?_).wi (by decide)⟩
    · have := hq.1
      simp only [PCx, PTx] at *; omega
    · simp only [PTx]; omega
  refine w_T_readFormula_0 f0 ?_
  have bt := sim_all (sT S)
  refine S_readLoop (K := fun x2 h2 => Ext h h2 → _) (d := d) f0 hl ct.1 (sT S) 0 true [] [] _ (Nat.zero_add _) (fun y hy => by rw [Nat.zero_add]; exact ct.2 y hy) (fun c hc => (W.2.1.2 c hc).2) trivial (fun q => by cases q) (Nat.le_refl _) ?_ (fun j h2 e1 r _ => ?_) (fun D h2 e1 r hd _ => ?_)
  · refine ⟨⟨?_, ?_⟩, ⟨?_, fun y hy => by cases hy⟩, ⟨?_, trivial⟩, ?_, ?_, mi_eq⟩
    · exact ((((ext_wi _ _ _ _).trans (ext_wi _ _ _ _)).trans (ext_wi _ _ _ _)).trans (ext_wi _ _ _ _)).trans (ext_wi _ _ _ _)
    · exact ((((sm.rf.wi fun q => absurd (q.1 rfl) (by decide)).wi fun q => absurd (q.1 rfl) (by decide)).wi fun q => absurd (q.1 rfl) (by decide)).wi fun q => absurd (q.1 rfl) (by decide)).wi fun q => absurd (q.1 rfl) (by decide)
    · rw [mi_nj (by decide), mi_nj (by decide), mi_nj (by decide), mi_nj (by decide)]; exact mi_eq
    · rw [mi_nj (by decide), mi_nj (by decide), mi_nj (by decide)]; exact mi_eq
    · rw [mi_nj (by decide), mi_nj (by decide)]; exact mi_eq
    · rw [mi_nj (by decide)]; exact mi_eq
  · have hj : j < 2147483648 := by
      rcases bt with ⟨j', q1, q2, q3⟩ | ⟨D, E, q1, q2, q3⟩
      · rw [q1] at e1; injection e1 with e1; omega
      · rw [q1] at e1; cases e1
    refine ⟨fun q => absurd q (nI_nl hj), fun _ => ?_⟩
    rw [oPar2_e e1] at hK
    exact hK _ (emp h2 r)
  · refine ⟨fun _ => ?_, fun q => absurd (by decide) q⟩
    rcases bt with ⟨j', q1, q2, q3⟩ | ⟨D', E, q1, q2, q3⟩
    · rw [q1] at e1; cases e1
    rw [q1] at e1
    injection e1 with e1
    subst e1
    rw [oPar2_s q1 q2] at hK
    have dl : D'.length ≤ 40 := by have := q3.2.1; omega
    obtain ⟨i1, i2, i3⟩ := emp h2 r
    rw [mi_nj (show 2 ≠ 0 by decide), hd.1]
    refine S_replaceSigns hm (fm.ext i2) (f0.ext i2).s_signs (by simp only [aF, A_text]; omega) (by simp only [aF, A_text]; omega) (by omega) dl (by decide) (fun k hk => by rw [mi_ne (by decide)]; exact hd.2 k hk) fun h3 e3 s3 cf _ => ?_
    rw [cf.1]
    refine hK h3 ⟨InvC.atF hm i1 e3 (s3.sm.sub fun q z hq => hq.2) cf, i2.trans e3, i3.trans (s3.sm.sub fun q z hq => ?_)⟩
    simp only [aF]; omega
end PARC2

theorem omI_n {c : Nat} {t : List Nat} (e : opM c = none) : omI (c :: t) = nI 0 := by simp only [omI, e]
theorem omI_s {c k : Nat} {t : List Nat} (e : opM c = some k) : omI (c :: t) = nI k := by simp only [omI, e]
section PARM
variable {h0 : AH} {d g N : Nat} {K : Int32 → AH → Prop} {Q : AH → Prop}
theorem S_tf (fM : is_M h0) : ∀ (t : List Nat) (i : Nat) (P E : List Nat) (h : AH), TX h0 N i t → RM h0 h P E (P.count 9 + P.count 5) i → OKM P E i → (∀ j h1, rd rM t i true P E = .inl j → RMx h0 h1 → mi h1 A_M 8 = nI j → K (nI 0) h1) → (∀ t' i' P' E' h1, rd rM t i true P E = rd rM t' i' false P' E' → t'.length < t.length → TX h0 N i' t' → RM h0 h1 P' E' (P'.count 9 + P'.count 5) i' → OKM P' E' i' → K (nI 1) h1) → Ev (d + 2) g g m_M_takesFactor 0 [.ref A_M] [] h (asI K)
  | [], i, P, E, h, tx, r, ok, hE, hO => by
    refine w_M_takesFactor_0 (fM.ext r.1.1) (S_next fM tx r fun _ => ⟨fun q => absurd q (by decide), fun _ => S_next fM tx r fun _ => ⟨fun _ => S_next fM tx r fun _ => S_atomOf0 fun _ => ⟨fun q => absurd q (by decide), fun _ => hE i h rfl r.1 r.2.2.2.2⟩, fun q => absurd q (by decide)⟩⟩)
  | c :: t, i, P, E, h, tx, r, ok, hE, hO => by
    have hc := tx.2.2.2.2 c (by simp)
    have hN := tx.1
    have hi : i + (t.length + 1) = N := tx.2.2.1
    have ok1 := ok.1
    have ok3 := ok.2.2
    have e15 := r.2.2.2.1
    have e14 := r.2.2.1.1
    have e8 := r.2.2.2.2
    have pushed : ∀ x, x = 9 ∨ x = 5 → RM h0 (wi (wi (wi (wi h A_M 15 (nI (P.count 9 + P.count 5 + 1))) M_pending P.length (nI x)) A_M 14 (nI (P.length + 1))) A_M 8 (nI (i + 1))) (x :: P) E ((x :: P).count 9 + (x :: P).count 5) (i + 1) ∧ (P.count 9 + P.count 5 < 8 → OKM (x :: P) E (i + 1)) := fun x hx => by
      have ec : (x :: P).count 9 + (x :: P).count 5 = P.count 9 + P.count 5 + 1 := by
        rw [List.count_cons, List.count_cons]
        rcases hx with rfl | rfl
        · show P.count 9 + 1 + (P.count 5 + 0) = _; omega
        · rfl
      rw [ec]
      refine ⟨r.w15.hold.w8, fun lt => ⟨by show E.length + (P.length + 1) ≤ i + 1; omega, fun e he => ?_, by omega⟩⟩
      rcases List.mem_cons.mp he with z | z
      · omega
      · exact ok.2.1 e z
    refine w_M_takesFactor_0 (fM.ext r.1.1) (S_next fM tx r fun _ => br_eq c 40 rfl rfl (fun z => ?_) (fun z => ?_))
    · subst z
      refine br_ne (P.count 9 + P.count 5) 8 e15 rfl (fun z8 => ?_) (fun z8 => ?_)
      · exact hE i h (by rw [rd_pre (G := rM) rfl]; exact if_neg (fun q => by have : P.count 9 + P.count 5 < 8 := q.2; omega)) r.1 e8
      · rw [e15, nI_add (P.count 9 + P.count 5) 1]
        refine S_next fM tx r.w15 fun _ => ⟨fun q => absurd rfl q, fun _ => ?_⟩
        rw [mi_nj (show 8 ≠ 14 by decide), mi_ne (show A_M ≠ M_pending by decide), mi_ne (show A_M ≠ M_pending by decide), mi_nj (show 8 ≠ 15 by decide), e8, mi_nj (show 14 ≠ 15 by decide), e14, nI_clamp (by omega), nI_add P.length 1, nI_add i 1]
        refine ⟨vp_in_nI (by omega) (by decide), ?_⟩
        have e2 : rd rM (40 :: t) i true P E = rd rM t (i + 1) true (9 :: P) E := by rw [rd_pre (G := rM) rfl]; exact if_pos ⟨Or.inl rfl, show P.count 9 + P.count 5 < 8 by omega⟩
        rw [e2] at hE hO
        exact S_tf fM t (i + 1) (9 :: P) E _ tx.tl (pushed 9 (Or.inl rfl)).1 ((pushed 9 (Or.inl rfl)).2 (by omega)) hE fun t' i' P' E' h1 a b => hO t' i' P' E' h1 a (Nat.lt_succ_of_lt b)
    · refine S_next fM tx r fun _ => br_ne c 126 rfl rfl (fun z2 => ?_) (fun z2 => ?_)
      · subst z2
        refine br_ne (P.count 9 + P.count 5) 8 e15 rfl (fun z8 => ?_) (fun z8 => ?_)
        · exact hE i h (by rw [rd_pre (G := rM) rfl]; exact if_neg (fun q => by have : P.count 9 + P.count 5 < 8 := q.2; omega)) r.1 e8
        · rw [e15, nI_add (P.count 9 + P.count 5) 1]
          refine S_next fM tx r.w15 fun _ => ⟨fun _ => ?_, fun q => absurd (show nI 126 = nI 40 from q) (by decide)⟩
          rw [mi_nj (show 8 ≠ 14 by decide), mi_ne (show A_M ≠ M_pending by decide), mi_ne (show A_M ≠ M_pending by decide), mi_nj (show 8 ≠ 15 by decide), e8, mi_nj (show 14 ≠ 15 by decide), e14, nI_clamp (by omega), nI_add P.length 1, nI_add i 1]
          refine ⟨vp_in_nI (by omega) (by decide), ?_⟩
          have e2 : rd rM (126 :: t) i true P E = rd rM t (i + 1) true (5 :: P) E := by rw [rd_pre (G := rM) rfl]; exact if_pos ⟨Or.inr rfl, show P.count 9 + P.count 5 < 8 by omega⟩
          rw [e2] at hE hO
          exact S_tf fM t (i + 1) (5 :: P) E _ tx.tl (pushed 5 (Or.inr rfl)).1 ((pushed 5 (Or.inr rfl)).2 (by omega)) hE fun t' i' P' E' h1 a b => hO t' i' P' E' h1 a (Nat.lt_succ_of_lt b)
      · refine S_next fM tx r fun _ => S_atomOf (by omega) fun _ => ?_
        cases e : leafN c with
        | none =>
          rw [lfI_n e]
          exact ⟨fun q => absurd q (by decide), fun _ => hE i h (by rw [rd_pre (G := rM) e]; exact if_neg (fun q => by omega)) r.1 e8⟩
        | some a =>
          rw [lfI_s e]
          have a5 := leafN_5 e
          refine ⟨fun _ => S_next fM tx r fun _ => S_atomOf (by omega) fun _ => ?_, fun q => absurd (nI_nn (by omega)) q⟩
          rw [lfI_s e]
          refine S_mkM fM r (by omega) fun h1 r1 _ => ?_
          rw [r1.2.2.2.2, nI_add i 1]
          have la : (E ++ [a]).length = E.length + 1 := by rw [List.length_append]; rfl
          have ok2 : OKM P (E ++ [a]) (i + 1) := ⟨by omega, ok.2.1, ok.2.2⟩
          refine S_from (p := rM.pn) (by decide) fM (fun k => rfl) P (E ++ [a]) _ r1.w8 (by omega) ok.2.1 fun h2 r2 _ => ?_
          exact hO t (i + 1) _ _ h2 (rd_leaf (G := rM) e) (Nat.lt_succ_self _) tx.tl r2 ok2.pop
theorem S_cl (fM : is_M h0) : ∀ (t : List Nat) (i : Nat) (P E : List Nat) (h : AH), TX h0 N i t → RM h0 h P E (P.count 9 + P.count 5) i → OKM P E i → (∀ t' i' P' E' h1, rd rM t i false P E = rd rM t' i' false P' E' → t'.length ≤ t.length → TX h0 N i' t' → RM h0 h1 P' E' (P'.count 9 + P'.count 5) i' → OKM P' E' i' → (∀ t2, t' = 41 :: t2 → P'.count 9 = 0) → Q h1) → Ev (d + 2) g g m_M_closes 0 [.ref A_M] [] h (asV Q)
  | [], i, P, E, h, tx, r, ok, hO => by
    exact w_M_closes_0 (fM.ext r.1.1) (S_next fM tx r fun _ => ⟨fun _ => hO [] i P E h rfl (Nat.le_refl _) tx r ok (fun t2 q => by cases q), fun q => absurd q (by decide)⟩)
  | c :: t, i, P, E, h, tx, r, ok, hO => by
    have hc := tx.2.2.2.2 c (by simp)
    have hN := tx.1
    have hi : i + (t.length + 1) = N := tx.2.2.1
    have ok1 := ok.1
    refine w_M_closes_0 (fM.ext r.1.1) (S_next fM tx r fun _ => br_ne c 41 rfl rfl (fun z => ?_) (fun z => hO _ i P E h rfl (Nat.le_refl _) tx r ok (fun t2 q => by injection q with q1 q2; exact absurd q1 z)))
    subst z
    refine S_hasParen fM r (by omega) ok.2.1 (fun q _ => ⟨fun _ => hO _ i P E h rfl (Nat.le_refl _) tx r ok (fun _ _ => q), fun q => absurd rfl q⟩) (fun q _ => ⟨fun q => absurd q (by decide), fun _ => ?_⟩)
    refine S_from (p := rM.pc) (by decide) fM (fun k => rfl) P E h r (by omega) ok.2.1 fun h1 r1 _ => ?_
    have hp := pop_pcm (E := E) ok.2.1 q
    have okp := ok.pop (p := rM.pc)
    rw [rd_cl (G := rM) q] at hO
    revert hp okp r1 hO
    generalize popp rM.pc P E = s
    obtain ⟨P2, E2⟩ := s
    intro hO r1 hp okp
    have hp : P2 = 9 :: P2.tail := hp
    have r1 : RM h0 h1 P2 E2 (P2.count 9 + P2.count 5) i := r1
    have okp : OKM P2 E2 i := okp
    have hO : ∀ t' i' P' E' h1, rd rM t (i + 1) false (popp rM.pn P2.tail E2).1 (popp rM.pn P2.tail E2).2 = rd rM t' i' false P' E' → t'.length ≤ (41 :: t).length → TX h0 N i' t' → RM h0 h1 P' E' (P'.count 9 + P'.count 5) i' → OKM P' E' i' → (∀ t2, t' = 41 :: t2 → P'.count 9 = 0) → Q h1 := hO
    revert hp r1 okp hO
    generalize P2.tail = P3
    intro hp r1 okp hO
    subst hp
    have ec : (9 :: P3).count 9 + (9 :: P3).count 5 = P3.count 9 + P3.count 5 + 1 := by rw [List.count_cons, List.count_cons]; show P3.count 9 + 1 + (P3.count 5 + 0) = _; omega
    rw [ec] at r1
    have e14 : mi h1 A_M 14 = nI (P3.length + 1) := r1.2.2.1.1
    have l3 : E2.length + (P3.length + 1) ≤ i := okp.1
    have o3 := okp.2.2
    rw [ec] at o3
    have ok3 : OKM P3 E2 (i + 1) := ⟨by omega, fun e he => okp.2.1 e (List.mem_cons_of_mem _ he), by omega⟩
    rw [mi_nj (show 8 ≠ 15 by decide), mi_nj (show 8 ≠ 14 by decide), mi_nj (show 15 ≠ 14 by decide), e14, r1.2.2.2.1, r1.2.2.2.2, nI_dn, nI_dn, nI_add i 1]
    refine S_from (p := rM.pn) (by decide) fM (fun k => rfl) P3 E2 _ r1.w14.w15.w8 (by omega) ok3.2.1 fun h2 r2 _ => ?_
    exact S_cl fM t (i + 1) _ _ h2 tx.tl r2 ok3.pop fun t' i' P' E' h1 a b => hO t' i' P' E' h1 a (Nat.le_succ_of_le b)
theorem S_tt (fM : is_M h0) : ∀ (n : Nat) (t : List Nat) (i : Nat) (P E : List Nat) (h : AH), t.length ≤ n → TX h0 N i t → RM h0 h P E (P.count 9 + P.count 5) i → OKM P E i → (∀ j h1, rd rM t i true P E = .inl j → RMx h0 h1 → mi h1 A_M 8 = nI j → K (nI 0) h1) → (∀ E' h1, rd rM t i true P E = .inr E' → RMx h0 h1 → MADE h1 E' → K (nI 1) h1) → Ev (d + 3) g g m_M_takesText 20 [.ref A_M] [] h (asI K) := by
  intro n
  induction n with
  | zero =>
    intro t i P E h hn tx r ok hE hO
    have : t = [] := List.length_eq_zero_iff.mp (by omega)
    subst this
    refine w_M_takesText_20 (fM.ext r.1.1) (S_tf fM [] i P E h tx r ok (fun j h1 a b c _ => ⟨fun _ => hE j h1 a b c, fun q => absurd rfl q⟩) (fun t' i' P' E' h1 a b => absurd b (Nat.not_lt_zero _)))
  | succ n ih =>
    intro t i P E h hn tx r ok hE hO
    refine w_M_takesText_20 (fM.ext r.1.1) (S_tf fM t i P E h tx r ok (fun j h1 a b c _ => ⟨fun _ => hE j h1 a b c, fun q => absurd rfl q⟩) (fun t1 i1 P1 E1 h1 a1 b1 tx1 r1 ok1 _ => ⟨fun q => absurd q (by decide), fun _ => ?_⟩))
    rw [a1] at hE hO
    refine S_cl fM t1 i1 P1 E1 h1 tx1 r1 ok1 fun t2 i2 P2 E2 h2 a2 b2 tx2 r2 ok2 np _ => ?_
    rw [a2] at hE hO
    have hN := tx2.1
    have hi := tx2.2.2.1
    have l2 := ok2.1
    refine S_next fM tx2 r2 fun _ => S_deedOf tx2.2.2.2.2 fun _ => ?_
    have stop : (∀ c t3, t2 = c :: t3 → opM c = none) → omI t2 = nI 0 → (¬ omI t2 = 0 → (¬ omI t2 = (nI 8) → Ev (d + 2) g g m_M_makesFrom 0 [.ref A_M, .int (omI t2)] [] h2 (asV fun h5 => Ext h2 h5 → vp_in (mi h5 A_M 14) 64 ∧ Ev (d + 2 + 1) g g m_M_takesText 20 [.ref A_M] [] (wi (wi (wi h5 M_pending (mi h5 A_M 14).toNatClampNeg (omI t2)) A_M 14 ((mi (wi h5 M_pending (mi h5 A_M 14).toNatClampNeg (omI t2)) A_M 14) + (nI 1))) A_M 8 ((mi (wi (wi h5 M_pending (mi h5 A_M 14).toNatClampNeg (omI t2)) A_M 14 ((mi (wi h5 M_pending (mi h5 A_M 14).toNatClampNeg (omI t2)) A_M 14) + (nI 1))) A_M 8) + (nI 1))) (asI K))) ∧ (omI t2 = (nI 8) → Ev (d + 2) g g m_M_makesFrom 0 [.ref A_M, .int (nI 7)] [] h2 (asV fun h6 => Ext h2 h6 → vp_in (mi h6 A_M 14) 64 ∧ Ev (d + 2 + 1) g g m_M_takesText 20 [.ref A_M] [] (wi (wi (wi h6 M_pending (mi h6 A_M 14).toNatClampNeg (omI t2)) A_M 14 ((mi (wi h6 M_pending (mi h6 A_M 14).toNatClampNeg (omI t2)) A_M 14) + (nI 1))) A_M 8 ((mi (wi (wi h6 M_pending (mi h6 A_M 14).toNatClampNeg (omI t2)) A_M 14 ((mi (wi h6 M_pending (mi h6 A_M 14).toNatClampNeg (omI t2)) A_M 14) + (nI 1))) A_M 8) + (nI 1))) (asI K)))) ∧ (omI t2 = 0 → Ev (d + 2) g g m_M_makesFrom 0 [.ref A_M, .int (nI 8)] [] h2 (asV fun h8 => Ext h2 h8 → (¬ (mi h8 A_M 8) = (mi h8 A_M 7) → K (nI 0) h8) ∧ ((mi h8 A_M 8) = (mi h8 A_M 7) → (¬ (mi h8 A_M 14) = 0 → K (nI 0) h8) ∧ ((mi h8 A_M 14) = 0 → K (nI 1) h8)))) := fun nop ez => by
      rw [ez]
      refine ⟨fun q => absurd rfl q, fun _ => ?_⟩
      refine S_from (p := rM.pc) (by decide) fM (fun k => rfl) P2 E2 h2 r2 (by omega) ok2.2.1 fun h3 r3 _ => ?_
      have e7 : mi h3 A_M 7 = nI N := ((r3.1.2 A_M 7 ⟨fun q => absurd q.2 (by decide), by decide, by decide⟩).1).trans tx2.2.1
      have l3 := ok2.pop (p := rM.pc)
      refine br_ne i2 N r3.2.2.2.2 e7 (fun z => ?_) (fun z => ?_)
      · have t0 : t2 = [] := List.length_eq_zero_iff.mp (by omega)
        subst t0
        refine br_ne (popp rM.pc P2 E2).1.length 0 r3.2.2.1.1 rfl (fun y => ?_) (fun y => ?_) (by have := l3.1; omega)
        · by_cases c9 : P2.count 9 = 0
          · exact hO _ h3 (rd_end0 (G := rM) c9) r3.1 r3.2.1
          · rw [pop_pcm ok2.2.1 c9] at y; cases y
        · by_cases c9 : P2.count 9 = 0
          · rw [pop_pcm0 ok2.2.1 c9] at y; exact absurd rfl y
          · exact hE i2 h3 (rd_end (G := rM) c9) r3.1 r3.2.2.2.2
      · match t2, hi, np, nop, hE with
        | [], hi, _, _, _ => exact absurd hi z
        | c :: t3, hi, np, nop, hE =>
          by_cases c41 : c = 41
          · subst c41
            exact hE i2 h3 (rd_cl0 (G := rM) (np t3 rfl)) r3.1 r3.2.2.2.2
          · exact hE i2 h3 (rd_bad (G := rM) c41 (nop c t3 rfl)) r3.1 r3.2.2.2.2
    match t2, tx2, hi, np, hE, hO, stop, b2 with
    | [], _, _, _, _, _, stop, _ => exact stop (fun c t3 q => by cases q) rfl
    | c :: t3, tx2, hi, np, hE, hO, stop, b2 =>
      cases e : opM c with
      | none => exact stop (fun c' t' q => by injection q with q1 q2; rw [← q1]; exact e) (omI_n e)
      | some k =>
        have hi : i2 + (t3.length + 1) = N := hi
        have b2 : t3.length + 1 ≤ t1.length := b2
        have ez : omI (c :: t3) = nI k := omI_s e
        have hk : (k = 6 ∨ k = 7 ∨ k = 8) ∧ c ≠ 41 := by
          rcases opC_c (c := c) with ⟨z, -, e1⟩ | ⟨z, -, e1⟩ | ⟨z, -, e1⟩ | ⟨-, e1⟩ <;> rw [e] at e1 <;> (first | (injection e1 with e1; omega) | (cases e1))
        clear stop
        rw [ez]
        rw [rd_op (G := rM) hk.2 e] at hE hO
        have okp := ok2.pop (p := rM.po k)
        have go : ∀ h3, RM h0 h3 (popp (rM.po k) P2 E2).1 (popp (rM.po k) P2 E2).2 ((popp (rM.po k) P2 E2).1.count 9 + (popp (rM.po k) P2 E2).1.count 5) i2 → vp_in (mi h3 A_M 14) 64 ∧ Ev (d + 2 + 1) g g m_M_takesText 20 [.ref A_M] [] (wi (wi (wi h3 M_pending (mi h3 A_M 14).toNatClampNeg (nI k)) A_M 14 ((mi (wi h3 M_pending (mi h3 A_M 14).toNatClampNeg (nI k)) A_M 14) + (nI 1))) A_M 8 ((mi (wi (wi h3 M_pending (mi h3 A_M 14).toNatClampNeg (nI k)) A_M 14 ((mi (wi h3 M_pending (mi h3 A_M 14).toNatClampNeg (nI k)) A_M 14) + (nI 1))) A_M 8) + (nI 1))) (asI K) := fun h3 r3 => by
          have l3 := okp.1
          rw [mi_nj (show 8 ≠ 14 by decide), mi_ne (show A_M ≠ M_pending by decide), mi_ne (show A_M ≠ M_pending by decide), r3.2.2.1.1, r3.2.2.2.2, nI_clamp (by omega), nI_add _ 1, nI_add i2 1]
          refine ⟨vp_in_nI (by omega) (by decide), ?_⟩
          have ec : (k :: (popp (rM.po k) P2 E2).1).count 9 + (k :: (popp (rM.po k) P2 E2).1).count 5 = (popp (rM.po k) P2 E2).1.count 9 + (popp (rM.po k) P2 E2).1.count 5 := by rw [List.count_cons, List.count_cons, if_neg (by simp; omega), if_neg (by simp; omega)]; rfl
          refine ih t3 (i2 + 1) (k :: (popp (rM.po k) P2 E2).1) (popp (rM.po k) P2 E2).2 _ (by omega) tx2.tl (by rw [ec]; exact r3.hold.w8) ⟨by show _ + (_ + 1) ≤ i2 + 1; omega, fun x hx => ?_, by rw [ec]; exact okp.2.2⟩ hE hO
          rcases List.mem_cons.mp hx with z | z
          · omega
          · exact okp.2.1 x z
        refine ⟨fun _ => ?_, fun q => absurd q (fun q => by rw [nI_z (by omega)] at q; omega)⟩
        refine br_ne k 8 rfl rfl (fun z => ?_) (fun z => ?_)
        · subst z
          exact S_from (p := rM.po 8) (by decide) fM (fun k => rfl) P2 E2 h2 r2 (by omega) ok2.2.1 fun h3 r3 _ => go h3 r3
        · exact S_from (p := rM.po k) (by omega) fM (fun j => by show decide (j ≤ if k = 8 then 7 else k) = _; rw [if_neg z]) P2 E2 h2 r2 (by omega) ok2.2.1 fun h3 r3 _ => go h3 r3
end PARM
section PARM2
variable {h : AH} {S : St} {v : Int32} {d g : Nat} {K : Int32 → AH → Prop}
theorem M_parse (W : WS S) (I : InvM h S) (hK : ∀ h1, doneM (oPar S v).2 h h1 → K (oPar S v).1 h1) : Ev (d + 4) g g m_M_parse 0 [.ref A_M, .int v] [] h (asI K) := by
  have ct := I.2.2.1
  have hl := W.2.1.1
  refine w_M_parse_0 I.1 (S_isF (fun e => ?_) (fun m hm hv e => ?_))
  · rw [oPar_n e] at hK
    refine S_isF' (fun _ => ?_) (fun m hm _ e2 => by rw [e] at e2; cases e2)
    exact hK _ ⟨InvM.atT W I (ext_wi _ _ _ _) (sm.rf.wi (fun q => q.2.1 ⟨rfl, rfl⟩)) ⟨mi_eq, fun i hi => absurd hi (Nat.not_lt_zero i)⟩, ext_wi _ _ _ _, sm.rf.wi (by decide)⟩
  rw [oPar_s e] at hK
  have emp : ∀ h2, RMx h h2 → InvM (wi h2 A_M 7 (nI 0)) (setT S []) ∧ Ext h (wi h2 A_M 7 (nI 0)) ∧ FrC h (wi h2 A_M 7 (nI 0)) := fun h2 r => by
    refine ⟨InvM.atT W I (r.1.trans (ext_wi _ _ _ _)) ((r.2.sub fun q j hq => ?_).wi (fun q => q.2.1 ⟨rfl, rfl⟩)) ⟨mi_eq, fun i hi => absurd hi (Nat.not_lt_zero i)⟩, r.1.trans (ext_wi _ _ _ _), (r.2.sub fun q j hq => ?_).wi (by decide)⟩
    · have := hq.1
      simp only [PMx, PMp, M_size, M_elements, M_numberOf, M_made, M_pending, M_given, M_stack, M_map, M_moved, M_up] at *; omega
    · simp only [PMp]; omega
  have bt := sim_all (sT S)
  refine w_M_takesText_0 I.1 ?_
  have r0 : RM h (wi (wi (wi (wi h A_M 8 (nI 0)) A_M 13 (nI 0)) A_M 14 (nI 0)) A_M 15 (nI 0)) [] [] 0 0 := by
    refine ⟨⟨(((ext_wi _ _ _ _).trans (ext_wi _ _ _ _)).trans (ext_wi _ _ _ _)).trans (ext_wi _ _ _ _), ((((sm.rf.wi fun q => q.1 ⟨rfl, by decide⟩).wi fun q => q.1 ⟨rfl, by decide⟩).wi fun q => q.1 ⟨rfl, by decide⟩).wi fun q => q.1 ⟨rfl, by decide⟩)⟩, ⟨?_, fun y hy => by cases hy⟩, ⟨?_, trivial⟩, mi_eq, ?_⟩
    · rw [mi_nj (by decide), mi_nj (by decide)]; exact mi_eq
    · rw [mi_nj (by decide)]; exact mi_eq
    · rw [mi_nj (by decide), mi_nj (by decide), mi_nj (by decide)]; exact mi_eq
  refine S_tt (N := (sT S).length) (d := d) I.1 (sT S).length (sT S) 0 [] [] _ (Nat.le_refl _) ⟨hl, ct.1, Nat.zero_add _, fun y hy => by rw [Nat.zero_add]; exact ct.2 y hy, fun c hc => (W.2.1.2 c hc).2⟩ r0 ⟨Nat.le_refl _, fun e he => (by cases he), (by decide)⟩ (fun j h2 e1 r e8 _ => ?_) (fun E h2 e1 r md _ => ?_)
  · refine ⟨fun _ => S_isF' (fun z => by rw [z] at e; cases e) (fun m2 _ _ _ => ?_), fun q => absurd rfl q⟩
    rw [mi_nj (show 8 ≠ 7 by decide), e8]
    rcases bt with ⟨j', q1, q2, q3⟩ | ⟨D, E, q1, q2, q3⟩
    · rw [q2] at e1
      injection e1 with e1
      subst e1
      rw [oPar2_e q1] at hK
      exact hK _ (emp h2 r)
    · rw [q2] at e1; cases e1
  · refine ⟨fun q => absurd q (by decide), fun _ => S_isF' (fun z => by rw [z] at e; cases e) (fun m2 hm2 hv2 _ => ?_)⟩
    rcases bt with ⟨j', q1, q2, q3⟩ | ⟨D, E', q1, q2, q3⟩
    · rw [q2] at e1; cases e1
    rw [q2] at e1
    injection e1 with e1
    subst e1
    rw [oPar2_s q1 q2] at hK
    have dl : E'.length ≤ 40 := by have := q3.1; have := q3.2.1; omega
    obtain ⟨i1, i2, i3⟩ := emp h2 r
    subst hv
    have md2 : MADE (wi h2 A_M 7 (nI 0)) E' := md.w (by decide)
    refine S_Mstores hm i1.1 (by omega) md2.1 md2.2 fun h3 e3 s3 cf _ => ?_
    rw [(s3 A_M 13 ⟨fun q => absurd q.1 (by decide), fun q => absurd q.1 (by decide)⟩).1, md2.1, ← q3.1]
    refine hK h3 ⟨InvM.atF W.clr i1 e3 (s3.sub fun q z hq => hq.2) cf, i2.trans e3, i3.trans (s3.sub fun q z hq => ?_)⟩
    omega
end PARM2

/-! the reference's constructor -/
def PM (h0 h : AH) (k : Nat) : Prop := h.1.length = 74 + k ∧ KP 73 h0 h ∧ hs h 73 = some (17, 33) ∧ (∀ q ∈ MF.take k, mr h 73 q.1 = some q.2.1 ∧ hs h q.2.1 = some (q.2.2.1, q.2.2.2)) ∧ (∀ j, (∀ q ∈ MF.take k, q.1 ≠ j) → mr h 73 j = none) ∧ ∀ a i, 73 ≤ a → a < 74 + k → a ≠ 94 → ¬ (a = 73 ∧ i = 26) → mi h a i = 0
section MIN
variable {h0 h : AH} {k j t n n' : Nat}
theorem pm_put {h1 : AH} (p : PM h0 h k) (hj : ∀ q ∈ MF.take k, q.1 ≠ j) (e : MF[k]? = some (j, 74 + k, t, n)) (hl : h1.1.length = 74 + k + 1) (h2 : ∀ a, a < 74 + k → hs h1 a = hs h a) (h3 : hs h1 (74 + k) = some (t, n)) (h4 : ∀ a i, a < 74 + k → mi h1 a i = mi h a i ∧ ml h1 a i = ml h a i ∧ mr h1 a i = if a = 73 ∧ i = j then some (74 + k) else mr h a i) (h5 : k ≠ 20 → ∀ i, mi h1 (74 + k) i = 0) : PM h0 h1 (k + 1) := by
  obtain ⟨p1, p2, p3, p4, p5, p6⟩ := p
  have tk : MF.take (k + 1) = MF.take k ++ [(j, 74 + k, t, n)] := by rw [List.take_succ, e]; rfl
  refine ⟨hl, fun a i ha => ?_, by rw [h2 73 (by omega)]; exact p3, fun q hq => ?_, fun y hy => ?_, fun a i a1 a2 a3 a4 => ?_⟩
  · obtain ⟨x1, x2, x3⟩ := h4 a i (by omega)
    rw [if_neg (fun q => by omega)] at x3
    exact ⟨x1.trans (p2 a i ha).1, x2.trans (p2 a i ha).2.1, x3.trans (p2 a i ha).2.2⟩
  · rw [tk] at hq
    rcases List.mem_append.mp hq with z | z
    · have x3 := (h4 73 q.1 (by omega)).2.2
      rw [if_neg (fun w => hj q z w.2)] at x3
      have lt := hs_lt (p4 q z).2
      exact ⟨x3.trans (p4 q z).1, by rw [h2 _ (by omega)]; exact (p4 q z).2⟩
    · have z : q = (j, 74 + k, t, n) := by simpa using z
      subst z
      have x3 := (h4 73 j (by omega)).2.2
      rw [if_pos ⟨rfl, rfl⟩] at x3
      exact ⟨x3, h3⟩
  · rw [tk] at hy
    have x3 := (h4 73 y (by omega)).2.2
    rw [if_neg (fun w => hy (j, 74 + k, t, n) (by simp) w.2.symm)] at x3
    exact x3.trans (p5 y fun q hq => hy q (List.mem_append_left _ hq))
  · by_cases c : a = 74 + k
    · subst c
      exact h5 (by omega) i
    · exact ((h4 a i (by omega)).1).trans (p6 a i a1 (by omega) a3 a4)
theorem pm_al (p : PM h0 h k) (hk : k ≠ 20) (hj : ∀ q ∈ MF.take k, q.1 ≠ j) (e : MF[k]? = some (j, 74 + k, t, n)) (hn1 : n' = n) : mr (hn h t n') 73 j = none ∧ PM h0 (al h 73 j t n') (k + 1) := by
  subst hn1
  have p1 := p.1
  refine ⟨by rw [mr_hn, p1, if_neg (by omega)]; exact p.2.2.2.2.1 j hj, pm_put p hj e (by rw [len_al, p1]) (fun a ha => by rw [hs_al, p1, if_neg (by omega)]) (by rw [hs_al, p1, if_pos rfl]) (fun a i ha => ⟨by rw [mi_al, p1, if_neg (by omega)], by rw [ml_al, p1, if_neg (by omega)], by rw [mr_al, p1, if_neg (show ¬ a = 74 + k by omega)]⟩) (fun _ i => by rw [mi_al, p1, if_pos rfl])⟩
theorem pm_wi {v : Int32} (p : PM h0 h k) : PM h0 (wi h 73 26 v) k := by
  obtain ⟨p1, p2, p3, p4, p5, p6⟩ := p
  exact ⟨p1, p2.wi (Nat.le_refl _), p3, p4, p5, fun a i a1 a2 a3 a4 => by rw [mi_wi, if_neg a4]; exact p6 a i a1 a2 a3 a4⟩
theorem pm_row (p : PM h0 h 20) (hn1 : n' = 3) : mr (wi (wi (wi (hn h 0 n') 94 (nI 0).toNatClampNeg m1) 94 (nI 1).toNatClampNeg m1) 94 (nI 2).toNatClampNeg m1) 73 30 = none ∧ PM h0 (wr (wi (wi (wi (hn h 0 n') 94 (nI 0).toNatClampNeg m1) 94 (nI 1).toNatClampNeg m1) 94 (nI 2).toNatClampNeg m1) 73 30 94) 21 ∧ ∀ r, r < 3 → mi (wr (wi (wi (wi (hn h 0 n') 94 (nI 0).toNatClampNeg m1) 94 (nI 1).toNatClampNeg m1) 94 (nI 2).toNatClampNeg m1) 73 30 94) 94 r = m1 := by
  subst hn1
  have p1 : h.1.length = 94 := p.1
  have c1 : (nI 1).toNatClampNeg = 1 := nI_clamp (by decide)
  have c2 : (nI 2).toNatClampNeg = 2 := nI_clamp (by decide)
  rw [ck0, c1, c2]
  refine ⟨?_, ?_, fun r hr => ?_⟩
  · rw [mr_wi, mr_wi, mr_wi, mr_hn, p1, if_neg (by decide)]; exact p.2.2.2.2.1 30 (by decide)
  · refine pm_put (n := 3) (t := 0) (j := 30) p (by decide) rfl (by show (hn h 0 3).1.length = _; rw [len_hn, p1]) (fun a ha => ?_) ?_ (fun a i ha => ⟨?_, ?_, ?_⟩) (fun q => absurd rfl q)
    · show hs (hn h 0 3) a = hs h a; rw [hs_hn', p1, if_neg (by omega)]
    · show hs (hn h 0 3) 94 = _; rw [hs_hn', p1, if_pos rfl]
    · rw [mi_wr, mi_ne (by omega), mi_ne (by omega), mi_ne (by omega), mi_hn, p1, if_neg (by omega)]
    · show ml (hn h 0 3) a i = _; rw [ml_hn, p1, if_neg (by omega)]
    · rw [mr_wr, mr_wi, mr_wi, mr_wi, mr_hn, p1, if_neg (show ¬ a = 94 by omega)]
  · have hr : r = 0 ∨ r = 1 ∨ r = 2 := by omega
    rcases hr with rfl | rfl | rfl
    · rw [mi_wr, mi_nj (by decide), mi_nj (by decide)]; exact mi_eq
    · rw [mi_wr, mi_nj (by decide)]; exact mi_eq
    · rw [mi_wr]; exact mi_eq
end MIN
section MI2
variable {h : AH} {d g : Nat} {Q : AH → Prop}
theorem I_M1 (hQ : ∀ h1, (∀ a i, a < 73 → mi h1 a i = mi h a i ∧ ml h1 a i = ml h a i) → InvM h1 S0 → Q h1) (hh : AH) (p : PM h hh 22) (hr : ∀ r, r < 3 → mi hh 94 r = m1) (h26 : mi hh 73 26 = m1) : Ev (d + 2) g g m_M_init 195 [.ref 73, .int (nI 0)] [] hh (asV Q) := by
  have fM : is_M hh := ⟨p.2.2.1, fun q hq => p.2.2.2.1 q (by rw [List.take_of_length_le (by decide)]; exact hq)⟩
  have z : ∀ a i, 73 ≤ a → a < 94 → ¬ (a = 73 ∧ i = 26) → mi hh a i = nI 0 := fun a i a1 a2 a3 => (p.2.2.2.2.2 a i a1 (by omega) (by omega) a3).trans rfl
  have key := for_up (σ := AH) (fun k h1 => Ev (d + 2) g g m_M_init 195 [.ref A_M, .int (nI k)] [] h1 (asV Q)) (fun k h1 => is_M h1 ∧ (∀ a i, a < 73 → mi h1 a i = mi h a i ∧ ml h1 a i = ml h a i) ∧ (∀ i, i < k → MO h1 i 1 (upB 1 eqR) ∧ MV h1 i (fun _ => 0)) ∧ sm (fun q _ => q ≠ 74 ∧ q ≠ 75 ∧ q ≠ 76) hh h1) 4 (fun h1 l => ?_) (fun k h1 hk l ih => ?_) 0 hh (Nat.zero_le _) ⟨fM, fun a i ha => ⟨(p.2.1 a i ha).1, (p.2.1 a i ha).2.1⟩, fun i hi => absurd hi (Nat.not_lt_zero _), sm.rf⟩
  · exact key
  · obtain ⟨f1, kp, dn, s⟩ := l
    refine u_M_init_195 (d := d + 1) f1 (br_le 4 4 rfl rfl (fun _ => hQ h1 kp ⟨f1, dn, ⟨?_, fun i hi => absurd hi (Nat.not_lt_zero _)⟩, fun i hi => ⟨?_, fun k hk => absurd hk (Nat.not_lt_zero _)⟩, ⟨?_, fun i hi => absurd hi (Nat.not_lt_zero _)⟩, ⟨?_, fun i hi => absurd hi (Nat.not_lt_zero _)⟩, fun r hr2 => ?_, ?_⟩) (fun q => by omega))
    · exact ((s 73 7 (by decide)).1).trans (z 73 7 (by decide) (by decide) (by decide))
    · exact ((s 81 i ⟨by decide, by decide, by decide⟩).1).trans (z 81 i (by decide) (by decide) (fun q => absurd q.1 (by decide)))
    · exact ((s 73 25 (by decide)).1).trans (z 73 25 (by decide) (by decide) (by decide))
    · exact ((s 73 26 (by decide)).1).trans h26
    · exact ((s 94 r ⟨by decide, by decide, by decide⟩).1).trans (hr r hr2)
    · exact ((s 73 32 (by decide)).1).trans (z 73 32 (by decide) (by decide) (by decide))
  · obtain ⟨f1, kp, dn, s⟩ := l
    refine u_M_init_195 (d := d + 1) f1 (br_le 4 k rfl rfl (fun q => by omega) (fun _ => ?_))
    refine S_Mempties (d := d) f1 hk (by decide) (by decide) fun h2 e2 s2 mo mv _ => ?_
    rw [nI_add]
    refine ih h2 ⟨f1.ext e2, fun a i ha => ?_, fun i hi => ?_, s.trans (s2.sub fun q j hq => by omega)⟩
    · obtain ⟨x1, x2⟩ := s2 a i (by omega)
      exact ⟨x1.trans (kp a i ha).1, x2.trans (kp a i ha).2⟩
    · by_cases c : i = k
      · subst c; exact ⟨mo, mv⟩
      · obtain ⟨o1, o2⟩ := dn i (by omega)
        refine ⟨o1.keep s2 (by show ¬ ((74 : Nat) = 74 ∧ i = k) ∧ ¬ ((74 : Nat) = 75 ∧ _) ∧ ¬ ((74 : Nat) = 76 ∧ _); omega) (fun x hx => by show ¬ ((75 : Nat) = 74 ∧ _) ∧ ¬ ((75 : Nat) = 75 ∧ 6 * k ≤ 6 * i + x ∧ 6 * i + x < 6 * k + 6) ∧ ¬ ((75 : Nat) = 76 ∧ _); omega), fun u hu => ((s2 76 (3 * i + u) (by omega)).1).trans (o2 u hu)⟩
theorem I_M (f0 : hs h 73 = some (17, 33)) (hL : h.1.length = 74) (h0 : ∀ i, mr h 73 i = none) (hz : ∀ i, mi h 73 i = 0) (hQ : ∀ h1, (∀ a i, a < 73 → mi h1 a i = mi h a i ∧ ml h1 a i = ml h a i) → InvM h1 S0 → Q h1) : Ev (d + 2) (g + 22) g m_M_init 0 [.ref 73] [] h (asV Q) := by
  have p0 : PM h h 0 := ⟨hL, KP.rf, f0, fun q hq => absurd hq (by simp), fun j _ => h0 j, fun a i a1 a2 a3 a4 => by rw [show a = 73 by omega]; exact hz i⟩
  refine u_M_init_0 (d := d + 1) f0 ?_
  have s := pm_al p0 (k := 0) (j := 0) (t := 0) (n := 5) (n' := (nI 5).toNatClampNeg) (by decide) (by decide) rfl (nI_clamp (by decide))
  refine ⟨s.1, ?_⟩
  have p1 := s.2
  clear s
  revert p1
  generalize al h 73 0 0 (nI 5).toNatClampNeg = H1
  intro p1
  have s := pm_al p1 (k := 1) (j := 1) (t := 0) (n := 30) (n' := (nI 30).toNatClampNeg) (by decide) (by decide) rfl (nI_clamp (by decide))
  refine ⟨s.1, ?_⟩
  have p2 := s.2
  clear s
  revert p2
  generalize al H1 73 1 0 (nI 30).toNatClampNeg = H2
  intro p2
  have s := pm_al p2 (k := 2) (j := 2) (t := 0) (n := 12) (n' := (nI 12).toNatClampNeg) (by decide) (by decide) rfl (nI_clamp (by decide))
  refine ⟨s.1, ?_⟩
  have p3 := s.2
  clear s
  revert p3
  generalize al H2 73 2 0 (nI 12).toNatClampNeg = H3
  intro p3
  have s := pm_al p3 (k := 3) (j := 3) (t := 0) (n := 64) (n' := (nI 64).toNatClampNeg) (by decide) (by decide) rfl (nI_clamp (by decide))
  refine ⟨s.1, ?_⟩
  have p4 := s.2
  clear s
  revert p4
  generalize al H3 73 3 0 (nI 64).toNatClampNeg = H4
  intro p4
  have s := pm_al p4 (k := 4) (j := 4) (t := 0) (n := 64) (n' := (nI 64).toNatClampNeg) (by decide) (by decide) rfl (nI_clamp (by decide))
  refine ⟨s.1, ?_⟩
  have p5 := s.2
  clear s
  revert p5
  generalize al H4 73 4 0 (nI 64).toNatClampNeg = H5
  intro p5
  have s := pm_al p5 (k := 5) (j := 6) (t := 0) (n := 40) (n' := (nI 40).toNatClampNeg) (by decide) (by decide) rfl (nI_clamp (by decide))
  refine ⟨s.1, ?_⟩
  have p6 := s.2
  clear s
  revert p6
  generalize al H5 73 6 0 (nI 40).toNatClampNeg = H6
  intro p6
  have s := pm_al p6 (k := 6) (j := 9) (t := 0) (n := 360) (n' := (nI 360).toNatClampNeg) (by decide) (by decide) rfl (nI_clamp (by decide))
  refine ⟨s.1, ?_⟩
  have p7 := s.2
  clear s
  revert p7
  generalize al H6 73 9 0 (nI 360).toNatClampNeg = H7
  intro p7
  have s := pm_al p7 (k := 7) (j := 10) (t := 0) (n := 6) (n' := (nI 6).toNatClampNeg) (by decide) (by decide) rfl (nI_clamp (by decide))
  refine ⟨s.1, ?_⟩
  have p8 := s.2
  clear s
  revert p8
  generalize al H7 73 10 0 (nI 6).toNatClampNeg = H8
  intro p8
  have s := pm_al p8 (k := 8) (j := 11) (t := 0) (n := 64) (n' := (nI 64).toNatClampNeg) (by decide) (by decide) rfl (nI_clamp (by decide))
  refine ⟨s.1, ?_⟩
  have p9 := s.2
  clear s
  revert p9
  generalize al H8 73 11 0 (nI 64).toNatClampNeg = H9
  intro p9
  have s := pm_al p9 (k := 9) (j := 12) (t := 0) (n := 64) (n' := (nI 64).toNatClampNeg) (by decide) (by decide) rfl (nI_clamp (by decide))
  refine ⟨s.1, ?_⟩
  have p10 := s.2
  clear s
  revert p10
  generalize al H9 73 12 0 (nI 64).toNatClampNeg = H10
  intro p10
  have s := pm_al p10 (k := 10) (j := 16) (t := 0) (n := 3) (n' := (nI 3).toNatClampNeg) (by decide) (by decide) rfl (nI_clamp (by decide))
  refine ⟨s.1, ?_⟩
  have p11 := s.2
  clear s
  revert p11
  generalize al H10 73 16 0 (nI 3).toNatClampNeg = H11
  intro p11
  have s := pm_al p11 (k := 11) (j := 17) (t := 0) (n := 64) (n' := (nI 64).toNatClampNeg) (by decide) (by decide) rfl (nI_clamp (by decide))
  refine ⟨s.1, ?_⟩
  have p12 := s.2
  clear s
  revert p12
  generalize al H11 73 17 0 (nI 64).toNatClampNeg = H12
  intro p12
  have s := pm_al p12 (k := 12) (j := 20) (t := 0) (n := 4) (n' := (nI 4).toNatClampNeg) (by decide) (by decide) rfl (nI_clamp (by decide))
  refine ⟨s.1, ?_⟩
  have p13 := s.2
  clear s
  revert p13
  generalize al H12 73 20 0 (nI 4).toNatClampNeg = H13
  intro p13
  have s := pm_al p13 (k := 13) (j := 21) (t := 0) (n := 64) (n' := (nI 64).toNatClampNeg) (by decide) (by decide) rfl (nI_clamp (by decide))
  refine ⟨s.1, ?_⟩
  have p14 := s.2
  clear s
  revert p14
  generalize al H13 73 21 0 (nI 64).toNatClampNeg = H14
  intro p14
  have s := pm_al p14 (k := 14) (j := 22) (t := 0) (n := 64) (n' := (nI 64).toNatClampNeg) (by decide) (by decide) rfl (nI_clamp (by decide))
  refine ⟨s.1, ?_⟩
  have p15 := s.2
  clear s
  revert p15
  generalize al H14 73 22 0 (nI 64).toNatClampNeg = H15
  intro p15
  have s := pm_al p15 (k := 15) (j := 23) (t := 0) (n := 64) (n' := (nI 64).toNatClampNeg) (by decide) (by decide) rfl (nI_clamp (by decide))
  refine ⟨s.1, ?_⟩
  have p16 := s.2
  clear s
  revert p16
  generalize al H15 73 23 0 (nI 64).toNatClampNeg = H16
  intro p16
  have s := pm_al p16 (k := 16) (j := 24) (t := 1) (n := 64) (n' := (nI 64).toNatClampNeg) (by decide) (by decide) rfl (nI_clamp (by decide))
  refine ⟨s.1, ?_⟩
  have p17 := s.2
  clear s
  revert p17
  generalize al H16 73 24 1 (nI 64).toNatClampNeg = H17
  intro p17
  have p17 := pm_wi (v := cI (.negSucc 0)) p17
  have w26 : mi (wi H17 73 26 (cI (.negSucc 0))) 73 26 = m1 := mi_eq
  revert p17 w26
  generalize wi H17 73 26 (cI (.negSucc 0)) = G17
  intro p17 w26
  have s := pm_al p17 (k := 17) (j := 27) (t := 0) (n := 6) (n' := (nI 6).toNatClampNeg) (by decide) (by decide) rfl (nI_clamp (by decide))
  refine ⟨s.1, ?_⟩
  have w26 : mi (al G17 73 27 0 (nI 6).toNatClampNeg) 73 26 = m1 := by rw [mi_al, p17.1, if_neg (by decide)]; exact w26
  have p18 := s.2
  clear s
  revert p18 w26
  generalize al G17 73 27 0 (nI 6).toNatClampNeg = H18
  intro w26 p18
  have s := pm_al p18 (k := 18) (j := 28) (t := 0) (n := 90) (n' := (nI 90).toNatClampNeg) (by decide) (by decide) rfl (nI_clamp (by decide))
  refine ⟨s.1, ?_⟩
  have w26 : mi (al H18 73 28 0 (nI 90).toNatClampNeg) 73 26 = m1 := by rw [mi_al, p18.1, if_neg (by decide)]; exact w26
  have p19 := s.2
  clear s
  revert p19 w26
  generalize al H18 73 28 0 (nI 90).toNatClampNeg = H19
  intro w26 p19
  have s := pm_al p19 (k := 19) (j := 29) (t := 0) (n := 30) (n' := (nI 30).toNatClampNeg) (by decide) (by decide) rfl (nI_clamp (by decide))
  refine ⟨s.1, ?_⟩
  have w26 : mi (al H19 73 29 0 (nI 30).toNatClampNeg) 73 26 = m1 := by rw [mi_al, p19.1, if_neg (by decide)]; exact w26
  have p20 := s.2
  clear s
  revert p20 w26
  generalize al H19 73 29 0 (nI 30).toNatClampNeg = H20
  intro w26 p20
  have l20 : H20.1.length = 94 := p20.1
  rw [l20]
  have c3 : (nI 3).toNatClampNeg = 3 := ck3
  have s := pm_row (n' := (nI 3).toNatClampNeg) p20 c3
  refine ⟨?_, ?_, ?_, s.1, ?_⟩
  · rw [c3]; exact vp_in_nI (by decide) (by decide)
  · rw [c3]; exact vp_in_nI (by decide) (by decide)
  · rw [c3]; exact vp_in_nI (by decide) (by decide)
  have p21 := s.2.1
  have r21 := s.2.2
  have w21 : mi (wr (wi (wi (wi (hn H20 0 (nI 3).toNatClampNeg) 94 (nI 0).toNatClampNeg m1) 94 (nI 1).toNatClampNeg m1) 94 (nI 2).toNatClampNeg m1) 73 30 94) 73 26 = m1 := by rw [mi_wr, mi_ne (by decide), mi_ne (by decide), mi_ne (by decide), mi_hn, l20, if_neg (by decide)]; exact w26
  clear s
  show mr (hn (wr (wi (wi (wi (hn H20 0 (nI 3).toNatClampNeg) 94 (nI 0).toNatClampNeg m1) 94 (nI 1).toNatClampNeg m1) 94 (nI 2).toNatClampNeg m1) 73 30 94) 0 (nI 3).toNatClampNeg) 73 31 = none ∧ Ev (d + 1 + 1) g g m_M_init 195 [.ref 73, .int (nI 0)] [] (al (wr (wi (wi (wi (hn H20 0 (nI 3).toNatClampNeg) 94 (nI 0).toNatClampNeg m1) 94 (nI 1).toNatClampNeg m1) 94 (nI 2).toNatClampNeg m1) 73 30 94) 73 31 0 (nI 3).toNatClampNeg) (asV Q)
  revert p21 r21 w21
  generalize wr (wi (wi (wi (hn H20 0 (nI 3).toNatClampNeg) 94 (nI 0).toNatClampNeg m1) 94 (nI 1).toNatClampNeg m1) 94 (nI 2).toNatClampNeg m1) 73 30 94 = H21
  intro p21 r21 w21
  have s := pm_al p21 (k := 21) (j := 31) (t := 0) (n := 3) (n' := (nI 3).toNatClampNeg) (by decide) (by decide) rfl c3
  refine ⟨s.1, I_M1 hQ _ s.2 (fun r hr => ?_) ?_⟩
  · rw [mi_al, p21.1, if_neg (by decide)]; exact r21 r hr
  · rw [mi_al, p21.1, if_neg (by decide)]; exact w21
end MI2

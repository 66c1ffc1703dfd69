section CI3
variable {h : AH} {d g : Nat} {Q : AH → Prop}
theorem I_C (f0 : hs h 1 = some (16, 10)) (hL : h.1.length = 2) (h0 : ∀ i, mr h 1 i = none) (hQ : ∀ h1, h1.1.length = 73 → InvC h1 S0 → KP 1 h h1 → Q h1) : Ev (d + 5) (g + 73) g m_C_init 0 [.ref 1] [] h (asV Q) := by
  refine u_C_init_0 (d := d + 4) f0 ?_
  rw [ck4, ck6, ck3, ck60]
  have a3 : CA h (al (al (al h 1 0 3 4) 1 1 4 6) 1 2 5 3) 5 3 := by
    refine ⟨?_, ((KP.rf.al (Nat.le_refl _) ?_).al (Nat.le_refl _) ?_).al (Nat.le_refl _) ?_, ?_, ⟨?_, ?_, ?_⟩, ⟨?_, ?_, ?_⟩, fun i => ⟨?_, ?_, ?_⟩, fun j hj => ?_⟩
    case refine_15 =>
      rw [mr_al, if_neg (fun q => by omega), len_al, len_al, hL, if_neg (by decide), mr_al, if_neg (fun q => by omega), len_al, hL, if_neg (by decide), mr_al, if_neg (fun q => by omega), hL, if_neg (by decide)]
      exact h0 j
    all_goals simp [hs_al, mr_al, len_al, hL, h0, f0]
  refine ⟨by simp [mr_hn, hL, h0], by simp [mr_hn, mr_al, len_al, hL, h0], by simp [mr_hn, mr_al, len_al, hL, h0], ?_⟩
  revert a3
  generalize al (al (al h 1 0 3 4) 1 1 4 6) 1 2 5 3 = H3
  intro a3
  rw [a3.1]
  refine I_T (d := d + 3) (by rw [hs_hn', a3.1, if_pos rfl]) (by rw [len_hn, a3.1]) (fun i => by rw [mr_hn, a3.1, if_pos rfl]) fun h4 l4 t4 z4 k4 e4 => ?_
  have l3 := a3.1
  have a4 : CA h h4 9 3 := (a3.hn (t := 15) (n := 9) (by decide)).keep e4 k4 l4
  have n3 : mr h4 1 3 = none := a4.2.2.2.2.2.2 3 (by decide)
  have a5 := a4.wr (j := 3) (v := 5) (by decide) (by decide)
  have e5 : Ext h4 (wr h4 1 3 5) := ext_wr _ n3
  have m5 : mr (wr h4 1 3 5) 1 3 = some 5 := by rw [mr_wr, if_pos ⟨rfl, rfl⟩]
  have n4 : mr (hn (wr h4 1 3 5) 0 4) 1 4 = none := by rw [mr_hn, a5.1, if_neg (by decide)]; exact a5.2.2.2.2.2.2 4 (by decide)
  refine ⟨n3, n4, ?_⟩
  have e6 : Ext (wr h4 1 3 5) (wi (al (wr h4 1 3 5) 1 4 0 4) 1 5 (nI 0)) := ((ext_hn _ _ _).trans (ext_wr _ n4)).trans (ext_wi _ _ _ _)
  have a6 : CA h (wi (al (wr h4 1 3 5) 1 4 0 4) 1 5 (nI 0)) 10 5 := (a5.al (by decide) (by decide) (by decide)).wi
  have m6 : mr (wi (al (wr h4 1 3 5) 1 4 0 4) 1 5 (nI 0)) 1 4 = some 9 ∧ hs (wi (al (wr h4 1 3 5) 1 4 0 4) 1 5 (nI 0)) 9 = some (0, 4) ∧ mi (wi (al (wr h4 1 3 5) 1 4 0 4) 1 5 (nI 0)) 1 5 = nI 0 ∧ mi (wi (al (wr h4 1 3 5) 1 4 0 4) 1 5 (nI 0)) 5 0 = nI 0 := by
    refine ⟨?_, ?_, mi_eq, ?_⟩
    · rw [mr_wi, mr_al, if_pos ⟨rfl, rfl⟩, a5.1]
    · rw [hs_wi, hs_al, a5.1, if_pos rfl]
    · rw [mi_ne (by decide), mi_al, a5.1, if_neg (by decide)]; exact z4
  have t6 := t4.ext (e5.trans e6)
  have m6' := e6.2 _ _ _ (by rw [a5.1]; decide) m5
  revert a6 m6 t6 m6'
  generalize wi (al (wr h4 1 3 5) 1 4 0 4) 1 5 (nI 0) = H6
  intro a6 m6 t6 m63
  rw [a6.1]
  refine I_A (d := d + 3) (by rw [hs_hn', a6.1, if_pos rfl]) (by rw [len_hn, a6.1]) (fun i => by rw [mr_hn, a6.1, if_pos rfl]) fun h7 l7 t7 z7 k7 e7 => ?_
  have a7 : CA h h7 17 5 := (a6.hn (t := 14) (n := 8) (by decide)).keep e7 (k7.le (by decide)) l7
  have l6 := a6.1
  have k67 : KP 10 H6 h7 := (KP.rf.hn (by omega)).trans k7
  have e67 : Ext H6 h7 := (ext_hn _ _ _).trans e7
  have n6 : mr h7 1 6 = none := a7.2.2.2.2.2.2 6 (by decide)
  have a8 := (a7.wr (j := 6) (v := 10) (by decide) (by decide)).wi (j := 7) (w := nI 0)
  have n8 : mr (hn (wi (wr h7 1 6 10) 1 7 (nI 0)) 0 6) 1 8 = none := by rw [mr_hn, a8.1, if_neg (by decide)]; exact a8.2.2.2.2.2.2 8 (by decide)
  have a9 := a8.al (j := 8) (t := 0) (n := 6) (by decide) (by decide) (by decide)
  have n9 : mr (hn (al (wi (wr h7 1 6 10) 1 7 (nI 0)) 1 8 0 6) 0 60) 1 9 = none := by rw [mr_hn, a9.1, if_neg (by decide)]; exact a9.2.2.2.2.2.2 9 (by decide)
  have a10 := a9.al (j := 9) (t := 0) (n := 60) (by decide) (by decide) (by decide)
  refine ⟨n6, n8, n9, ?_⟩
  have e8 : Ext h7 (wi (wr h7 1 6 10) 1 7 (nI 0)) := (ext_wr _ n6).trans (ext_wi _ _ _ _)
  have e9 : Ext (wi (wr h7 1 6 10) 1 7 (nI 0)) (al (wi (wr h7 1 6 10) 1 7 (nI 0)) 1 8 0 6) := (ext_hn _ _ _).trans (ext_wr _ n8)
  have e10 : Ext (al (wi (wr h7 1 6 10) 1 7 (nI 0)) 1 8 0 6) (al (al (wi (wr h7 1 6 10) 1 7 (nI 0)) 1 8 0 6) 1 9 0 60) := (ext_hn _ _ _).trans (ext_wr _ n9)
  have e7a := (e8.trans e9).trans e10
  have mz : ∀ a i, a < 17 → ¬ (a = 1 ∧ i = 7) → mi (al (al (wi (wr h7 1 6 10) 1 7 (nI 0)) 1 8 0 6) 1 9 0 60) a i = mi h7 a i := fun a i ha q => by
    rw [mi_al, a9.1, if_neg (by omega), mi_al, a8.1, if_neg (by omega), mi_wi, if_neg q, mi_wr]
  have o6 : 1 < H6.1.length := by omega
  have o7 : 1 < h7.1.length := by omega
  refine I_C1 (fun h1 l => hQ h1 l.inv.1 l.inv.2.1 l.inv.2.2) _ ⟨⟨a10.2.1, ⟨a10.2.2.1, ?_⟩, ⟨e7a.2 _ _ _ o7 (e67.2 _ _ _ o6 m63), (t6.ext e67).ext e7a, ?_, t7.ext e7a⟩, ?_, ?_, ?_, ?_⟩, a10.1, fun y hy => absurd hy (Nat.not_lt_zero _), fun y _ => (a10.2.2.2.2.2.1 y).1, fun y => (a10.2.2.2.2.2.1 y).2⟩
  · intro q hq
    have hq : q = (0, A_posets, 3, 4) ∨ q = (1, A_formulas, 4, 6) ∨ q = (2, A_rows, 5, 3) ∨ q = (4, A_gens, 0, 4) ∨ q = (8, A_dOrd, 0, 6) ∨ q = (9, A_dSig, 0, 60) := by simpa [CF] using hq
    rcases hq with rfl | rfl | rfl | rfl | rfl | rfl
    · exact ⟨a10.2.2.2.2.1.1, a10.2.2.2.1.1⟩
    · exact ⟨a10.2.2.2.2.1.2.1, a10.2.2.2.1.2.1⟩
    · exact ⟨a10.2.2.2.2.1.2.2, a10.2.2.2.1.2.2⟩
    · exact ⟨e7a.2 _ _ _ o7 (e67.2 _ _ _ o6 m6.1), e7a.shp (e67.shp m6.2.1)⟩
    · exact ⟨e10.2 _ _ _ (by rw [a9.1]; decide) (by rw [mr_al, if_pos ⟨rfl, rfl⟩, a8.1]), e10.shp (by rw [hs_al, a8.1, if_pos rfl])⟩
    · exact ⟨by rw [mr_al, if_pos ⟨rfl, rfl⟩, a9.1], by rw [hs_al, a9.1, if_pos rfl]⟩
  · exact (e9.trans e10).2 _ _ _ (by rw [a8.1]; decide) (by rw [mr_wi, mr_wr, if_pos ⟨rfl, rfl⟩])
  · exact (mz 5 0 (by decide) (by decide)).trans ((k67 5 0 (by decide)).1.trans m6.2.2.2)
  · exact (mz 1 5 (by decide) (by decide)).trans ((k67 1 5 (by decide)).1.trans m6.2.2.1)
  · exact (mz 10 0 (by decide) (by decide)).trans z7
  · rw [mi_al, a9.1, if_neg (by decide), mi_al, a8.1, if_neg (by decide)]; exact mi_eq
end CI3

/-! the objects that the constructors make -/
section OBJ
variable {h : AH}
theorem len_wi (h : AH) (a i : Nat) (v : Int32) : (wi h a i v).1.length = h.1.length := rfl
theorem len_al (h : AH) (r j t n : Nat) : (al h r j t n).1.length = h.1.length + 1 := len_hn h t n
theorem mr_al (h : AH) (r j t n a i : Nat) : mr (al h r j t n) a i = if a = r ∧ i = j then some h.1.length else if a = h.1.length then none else mr h a i := rfl
theorem mi_al (h : AH) (r j t n a i : Nat) : mi (al h r j t n) a i = if a = h.1.length then 0 else mi h a i := rfl
theorem ml_al (h : AH) (r j t n a i : Nat) : ml (al h r j t n) a i = if a = h.1.length then 0 else ml h a i := rfl
theorem hs_wi (h : AH) (a i : Nat) (v : Int32) (b : Nat) : hs (wi h a i v) b = hs h b := rfl
theorem hs_hn' (h : AH) (t n a : Nat) : hs (hn h t n) a = if a = h.1.length then some (t, n) else hs h a := by
  show (h.1 ++ [(t, n)])[a]? = if a = h.1.length then some (t, n) else h.1[a]?
  by_cases c : a = h.1.length
  · rw [if_pos c, c, List.getElem?_append_right (Nat.le_refl _), Nat.sub_self]; rfl
  · rw [if_neg c]
    by_cases c2 : a < h.1.length
    · rw [List.getElem?_append_left c2]
    · rw [List.getElem?_eq_none (by rw [List.length_append]; show h.1.length + 1 ≤ a; omega), List.getElem?_eq_none (by omega)]
theorem hs_al (h : AH) (r j t n a : Nat) : hs (al h r j t n) a = if a = h.1.length then some (t, n) else hs h a := hs_hn' h t n a
theorem ck3 : (nI 3).toNatClampNeg = 3 := nI_clamp (by decide)
theorem ck4 : (nI 4).toNatClampNeg = 4 := nI_clamp (by decide)
theorem ck5 : (nI 5).toNatClampNeg = 5 := nI_clamp (by decide)
theorem ck6 : (nI 6).toNatClampNeg = 6 := nI_clamp (by decide)
theorem ck30 : (nI 30).toNatClampNeg = 30 := nI_clamp (by decide)
theorem ck40 : (nI 40).toNatClampNeg = 40 := nI_clamp (by decide)
theorem ck60 : (nI 60).toNatClampNeg = 60 := nI_clamp (by decide)
theorem ck64 : (nI 64).toNatClampNeg = 64 := nI_clamp (by decide)
theorem ck0 : (nI 0).toNatClampNeg = 0 := nI_clamp (by decide)
def KP (r : Nat) (h h1 : AH) : Prop := ∀ a i, a < r → mi h1 a i = mi h a i ∧ ml h1 a i = ml h a i ∧ mr h1 a i = mr h a i
theorem KP.rf {r : Nat} : KP r h h := fun _ _ _ => ⟨rfl, rfl, rfl⟩
theorem KP.trans {r : Nat} {h1 h2 : AH} (a : KP r h h1) (b : KP r h1 h2) : KP r h h2 := fun x i hx => ⟨(b x i hx).1.trans (a x i hx).1, (b x i hx).2.1.trans (a x i hx).2.1, (b x i hx).2.2.trans (a x i hx).2.2⟩
theorem KP.wi {r a i : Nat} {v : Int32} {h1 : AH} (k : KP r h h1) (ha : r ≤ a) : KP r h (wi h1 a i v) := fun x j hx => ⟨by rw [mi_wi, if_neg (fun q => by omega)]; exact (k x j hx).1, (k x j hx).2.1, (k x j hx).2.2⟩
theorem KP.al {r a j t n : Nat} {h1 : AH} (k : KP r h h1) (ha : r ≤ a) (hl : r ≤ h1.1.length) : KP r h (al h1 a j t n) := fun x i hx => ⟨by rw [mi_al, if_neg (by omega)]; exact (k x i hx).1, by rw [ml_al, if_neg (by omega)]; exact (k x i hx).2.1, by rw [mr_al, if_neg (fun q => by omega), if_neg (by omega)]; exact (k x i hx).2.2⟩
theorem KP.hn {r t n : Nat} {h1 : AH} (k : KP r h h1) (hl : r ≤ h1.1.length) : KP r h (hn h1 t n) := fun x i hx => ⟨by rw [mi_hn, if_neg (by omega)]; exact (k x i hx).1, by rw [ml_hn, if_neg (by omega)]; exact (k x i hx).2.1, by rw [mr_hn, if_neg (by omega)]; exact (k x i hx).2.2⟩
theorem KP.le {r r2 : Nat} {h1 : AH} (k : KP r h h1) (l : r2 ≤ r) : KP r2 h h1 := fun x i hx => k x i (by omega)
variable {d g r : Nat} {Q : AH → Prop}
theorem I_F (f0 : hs h r = some (10, 4)) (hL : h.1.length = r + 1) (h0 : ∀ i, mr h r i = none) (hQ : ∀ h1, h1.1.length = r + 4 → is_F h1 r → mi h1 r 0 = nI 0 → KP r h h1 → Q h1) : Ev (d + 1) (g + 3) g m_F_init 0 [.ref r] [] h (asV Q) := by
  refine u_F_init_0 f0 ?_
  rw [ck60, ck5]
  refine ⟨?_, ?_, ?_, hQ _ ?_ ?_ ?_ ((((KP.rf.wi (Nat.le_refl _)).al (Nat.le_refl _) ?_).al (Nat.le_refl _) ?_).al (Nat.le_refl _) ?_)⟩
  all_goals have q2 : ¬ r = r + 1 + 1 := by omega
  all_goals have q3 : ¬ r = r + 1 + 1 + 1 := by omega
  all_goals have q4 : ¬ r = r + 1 + 1 + 1 + 1 := by omega
  all_goals have q5 : ¬ r = r + 1 + 1 + 1 + 1 + 1 := by omega
  all_goals have q6 : ¬ r = r + 1 + 1 + 1 + 1 + 1 + 1 := by omega
  all_goals first
    | (simp [is_F, hs_al, hs_wi, mr_hn, mr_al, mr_wi, mi_al, mi_wi, len_al, len_wi, hL, h0, f0, q2, q3, q4, q5, q6]; done)
    | (simp only [len_al, len_wi, hL]; omega)
    | (rw [mi_al, if_neg (by simp only [len_wi, hL]; omega)]; exact mi_eq)
theorem I_R (f0 : hs h r = some (13, 3)) (hL : h.1.length = r + 1) (h0 : ∀ i, mr h r i = none) (hQ : ∀ h1, h1.1.length = r + 2 → is_R h1 r → mi h1 r 1 = m1 → KP r h h1 → Q h1) : Ev (d + 1) (g + 1) g m_R_init 0 [.ref r] [] h (asV Q) := by
  refine u_R_init_0 f0 ?_
  rw [ck30]
  refine ⟨?_, hQ _ ?_ ?_ ?_ (((KP.rf.wi (Nat.le_refl _)).wi (Nat.le_refl _)).al (Nat.le_refl _) ?_)⟩
  all_goals have q2 : ¬ r = r + 1 + 1 := by omega
  all_goals have q3 : ¬ r = r + 1 + 1 + 1 := by omega
  all_goals have q4 : ¬ r = r + 1 + 1 + 1 + 1 := by omega
  all_goals have q5 : ¬ r = r + 1 + 1 + 1 + 1 + 1 := by omega
  all_goals have q6 : ¬ r = r + 1 + 1 + 1 + 1 + 1 + 1 := by omega
  all_goals first
    | (simp [is_R, hs_al, hs_wi, mr_hn, mr_al, mr_wi, mi_al, mi_wi, len_al, len_wi, hL, h0, f0, q2, q3, q4, q5, q6]; done)
    | (simp only [len_al, len_wi, hL]; omega)
    | (rw [mi_al, if_neg (by simp only [len_wi, hL]; omega)]; exact mi_eq)
theorem I_T (f0 : hs h r = some (15, 9)) (hL : h.1.length = r + 1) (h0 : ∀ i, mr h r i = none) (hQ : ∀ h1, h1.1.length = r + 4 → is_T h1 r → mi h1 r 0 = nI 0 → KP r h h1 → Q h1) : Ev (d + 1) (g + 3) g m_T_init 0 [.ref r] [] h (asV Q) := by
  refine u_T_init_0 f0 ?_
  rw [ck40]
  refine ⟨?_, ?_, ?_, hQ _ ?_ ?_ ?_ ((((((((KP.rf.wi (Nat.le_refl _)).al (Nat.le_refl _) ?_).wi (Nat.le_refl _)).al (Nat.le_refl _) ?_).al (Nat.le_refl _) ?_).wi (Nat.le_refl _)).wi (Nat.le_refl _)).wi (Nat.le_refl _) |>.wi (Nat.le_refl _))⟩
  all_goals have q2 : ¬ r = r + 1 + 1 := by omega
  all_goals have q3 : ¬ r = r + 1 + 1 + 1 := by omega
  all_goals have q4 : ¬ r = r + 1 + 1 + 1 + 1 := by omega
  all_goals have q5 : ¬ r = r + 1 + 1 + 1 + 1 + 1 := by omega
  all_goals have q6 : ¬ r = r + 1 + 1 + 1 + 1 + 1 + 1 := by omega
  all_goals first
    | (simp [is_T, hs_al, hs_wi, mr_hn, mr_al, mr_wi, mi_al, mi_wi, len_al, len_wi, hL, h0, f0, q2, q3, q4, q5, q6]; done)
    | (simp only [len_al, len_wi, hL]; omega)
    | (rw [mi_al, if_neg (by simp only [len_wi, hL]; omega)]; exact mi_eq)
theorem I_A (f0 : hs h r = some (14, 8)) (hL : h.1.length = r + 1) (h0 : ∀ i, mr h r i = none) (hQ : ∀ h1, h1.1.length = r + 7 → is_A h1 r → mi h1 r 0 = nI 0 → KP r h h1 → Q h1) : Ev (d + 1) (g + 6) g m_A_init 0 [.ref r] [] h (asV Q) := by
  refine u_A_init_0 f0 ?_
  rw [ck64]
  refine ⟨?_, ?_, ?_, ?_, ?_, ?_, hQ _ ?_ ?_ ?_ ((((((((KP.rf.wi (Nat.le_refl _)).al (Nat.le_refl _) ?_).al (Nat.le_refl _) ?_).al (Nat.le_refl _) ?_).al (Nat.le_refl _) ?_).wi (Nat.le_refl _)).al (Nat.le_refl _) ?_).al (Nat.le_refl _) ?_)⟩
  all_goals have q2 : ¬ r = r + 1 + 1 := by omega
  all_goals have q3 : ¬ r = r + 1 + 1 + 1 := by omega
  all_goals have q4 : ¬ r = r + 1 + 1 + 1 + 1 := by omega
  all_goals have q5 : ¬ r = r + 1 + 1 + 1 + 1 + 1 := by omega
  all_goals have q6 : ¬ r = r + 1 + 1 + 1 + 1 + 1 + 1 := by omega
  all_goals first
    | (simp [is_A, hs_al, hs_wi, mr_hn, mr_al, mr_wi, mi_al, mi_wi, len_al, len_wi, hL, h0, f0, q2, q3, q4, q5, q6]; done)
    | (simp only [len_al, len_wi, hL]; omega)
    | (rw [mi_al, if_neg (by simp only [len_wi, hL]; omega)]; exact mi_eq)
theorem up1 : upB 1 eqR 0 = 1 := by decide
theorem I_P (f0 : hs h r = some (12, 7)) (hL : h.1.length = r + 1) (h0 : ∀ i, mr h r i = none) (hQ : ∀ h1, h1.1.length = r + 6 → is_P h1 r → PC h1 r 1 (upB 1 eqR) (fun _ => 0) → KP r h h1 → Q h1) : Ev (d + 4) (g + 5) g m_P_init 0 [.ref r] [] h (asV Q) := by
  refine u_P_init_0 f0 ?_
  rw [ck64, ck6, ck3, ck0]
  have q2 : ¬ r = r + 1 + 1 := by omega
  have q3 : ¬ r = r + 1 + 1 + 1 := by omega
  have q4 : ¬ r = r + 1 + 1 + 1 + 1 := by omega
  have q5 : ¬ r = r + 1 + 1 + 1 + 1 + 1 := by omega
  refine ⟨?_, ?_, ?_, ?_, ?_, r + 1, ?_, ?_, vp_in_nI (by decide) (by decide), ?_⟩
  case refine_8 =>
    have kp : KP r h (wi (wi (al (al (al (al (al h r 1 0 6) r 2 0 64) r 4 0 64) r 5 0 64) r 6 0 3) r 0 (nI 1)) (r + 1) 0 (nI 1)) := by
      refine (((((((KP.rf.al (Nat.le_refl _) ?_).al (Nat.le_refl _) ?_).al (Nat.le_refl _) ?_).al (Nat.le_refl _) ?_).al (Nat.le_refl _) ?_).wi (Nat.le_refl _)).wi (Nat.le_succ _)) <;> (simp only [len_al, hL]; omega)
    have fp : is_P (wi (wi (al (al (al (al (al h r 1 0 6) r 2 0 64) r 4 0 64) r 5 0 64) r 6 0 3) r 0 (nI 1)) (r + 1) 0 (nI 1)) r := by
      simp [is_P, hs_al, hs_wi, mr_hn, mr_al, mr_wi, mi_al, mi_wi, len_al, len_wi, hL, h0, f0, q2, q3, q4, q5]
    have ln : (wi (wi (al (al (al (al (al h r 1 0 6) r 2 0 64) r 4 0 64) r 5 0 64) r 6 0 3) r 0 (nI 1)) (r + 1) 0 (nI 1)).1.length = r + 6 := by simp only [len_al, len_wi, hL]
    have po : PO (wi (wi (al (al (al (al (al h r 1 0 6) r 2 0 64) r 4 0 64) r 5 0 64) r 6 0 3) r 0 (nI 1)) (r + 1) 0 (nI 1)) r 1 (upB 1 eqR) := by
      refine ⟨by rw [mi_ne (by omega)]; exact mi_eq, fun x hx => ?_⟩
      have : x = 0 := by omega
      subst this
      rw [up1]; exact mi_eq
    refine X_refresh fp po (eqR_wf (by decide) (by decide)) fun h1 e sa pc _ => hQ h1 (e.2.1.trans ln) (fp.ext e.1) pc (kp.trans fun a i ha => ⟨(sa a (Or.inl ha)).1 i, (sa a (Or.inl ha)).2 i, e.2.2 a i⟩)
  all_goals simp [hs_al, hs_wi, mr_hn, mr_al, mr_wi, mi_al, mi_wi, len_al, len_wi, hL, h0, f0, q2, q3, q4, q5]
end OBJ

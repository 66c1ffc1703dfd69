/-! parse, the reference -/
def PMp (q j : Nat) : Prop := ¬ (q = 73 ∧ (j = 8 ∨ j = 13 ∨ j = 14 ∨ j = 15)) ∧ q ≠ 82 ∧ q ≠ 83
def RMx (h0 h : AH) : Prop := Ext h0 h ∧ sm PMp h0 h
def RM (h0 h : AH) (P E : List Nat) (o i : Nat) : Prop := RMx h0 h ∧ MADE h E ∧ (mi h A_M 14 = nI P.length ∧ STK (mi h M_pending) P) ∧ mi h A_M 15 = nI o ∧ mi h A_M 8 = nI i
def TX (h0 : AH) (N i : Nat) (t : List Nat) : Prop := N ≤ 40 ∧ mi h0 A_M 7 = nI N ∧ i + t.length = N ∧ (∀ y, y < t.length → mi h0 M_text (i + y) = nI (t.getD y 0)) ∧ ∀ c, c ∈ t → c ≤ 126
def OKM (P E : List Nat) (i : Nat) : Prop := E.length + P.length ≤ i ∧ (∀ e, e ∈ P → 5 ≤ e ∧ e ≤ 9) ∧ P.count 9 + P.count 5 ≤ 8
def nx : List Nat → Int32
  | [] => m1
  | c :: _ => nI c
section RMS
variable {h0 h : AH} {P E t : List Nat} {o i N : Nat}
theorem TX.tl {c : Nat} (x : TX h0 N i (c :: t)) : TX h0 N (i + 1) t := by
  obtain ⟨x1, x2, x3, x4, x5⟩ := x
  have x3 : i + (t.length + 1) = N := x3
  refine ⟨x1, x2, by omega, fun y hy => ?_, fun e he => x5 e (List.mem_cons_of_mem _ he)⟩
  have := x4 (y + 1) (Nat.succ_lt_succ hy)
  rw [show i + (y + 1) = i + 1 + y by omega] at this
  exact this
theorem RMx.w (r : RMx h0 h) {j : Nat} {v : Int32} (hj : j = 8 ∨ j = 13 ∨ j = 14 ∨ j = 15) : RMx h0 (wi h A_M j v) := ⟨r.1.trans (ext_wi _ _ _ _), r.2.wi fun q => q.1 ⟨rfl, hj⟩⟩
theorem MADE.w {j : Nat} {v : Int32} (m : MADE h E) (hj : j ≠ 13) : MADE (wi h A_M j v) E := ⟨by rw [mi_nj (Ne.symm hj)]; exact m.1, fun y hy => by rw [mi_ne (by decide)]; exact m.2 y hy⟩
theorem RM.w14 {x : Nat} (r : RM h0 h (x :: P) E o i) : RM h0 (wi h A_M 14 (nI P.length)) P E o i := by
  obtain ⟨r0, r1, r2, r3, r4⟩ := r
  exact ⟨r0.w (by decide), r1.w (by decide), ⟨mi_eq, r2.2.2.ext fun j _ => mi_ne (by decide)⟩, by rw [mi_nj (by decide)]; exact r3, by rw [mi_nj (by decide)]; exact r4⟩
theorem RM.w15 {o2 : Nat} (r : RM h0 h P E o i) : RM h0 (wi h A_M 15 (nI o2)) P E o2 i := by
  obtain ⟨r0, r1, r2, r3, r4⟩ := r
  exact ⟨r0.w (by decide), r1.w (by decide), ⟨by rw [mi_nj (by decide)]; exact r2.1, r2.2.ext fun j _ => mi_ne (by decide)⟩, mi_eq, by rw [mi_nj (by decide)]; exact r4⟩
theorem RM.w8 {o2 : Nat} (r : RM h0 h P E o i) : RM h0 (wi h A_M 8 (nI o2)) P E o o2 := by
  obtain ⟨r0, r1, r2, r3, r4⟩ := r
  exact ⟨r0.w (by decide), r1.w (by decide), ⟨by rw [mi_nj (by decide)]; exact r2.1, r2.2.ext fun j _ => mi_ne (by decide)⟩, by rw [mi_nj (by decide)]; exact r3, mi_eq⟩
theorem RM.hold {x : Nat} (r : RM h0 h P E o i) : RM h0 (wi (wi h M_pending P.length (nI x)) A_M 14 (nI (P.length + 1))) (x :: P) E o i := by
  obtain ⟨r0, r1, r2, r3, r4⟩ := r
  refine ⟨⟨(r0.1.trans (ext_wi _ _ _ _)).trans (ext_wi _ _ _ _), (r0.2.wi fun q => q.2.2 rfl).wi fun q => q.1 ⟨rfl, by decide⟩⟩, ⟨?_, fun y hy => ?_⟩, ⟨mi_eq, ?_, ?_⟩, ?_, ?_⟩
  · rw [mi_nj (by decide), mi_ne (by decide)]; exact r1.1
  · rw [mi_ne (by decide), mi_ne (by decide)]; exact r1.2 y hy
  · rw [mi_ne (by decide)]; exact mi_eq
  · exact r2.2.ext fun j hj => by rw [mi_ne (by decide), mi_nj (fun (z : j = P.length) => by omega)]
  · rw [mi_nj (by decide), mi_ne (by decide)]; exact r3
  · rw [mi_nj (by decide), mi_ne (by decide)]; exact r4
variable {d g c : Nat} {Q : AH → Prop} {K : Int32 → AH → Prop}
theorem S_mkM (fM : is_M h0) (r : RM h0 h P E o i) (hl : E.length < 64) (hQ : ∀ h1, RM h0 h1 P (E ++ [c]) o i → Q h1) : Ev d g g m_M_makes 0 [.ref A_M, .int (nI c)] [] h (asV Q) := by
  obtain ⟨r0, r1, r2, r3, r4⟩ := r
  refine S_Mmakes (fM.ext r0.1) r1 hl fun h1 e s m => hQ h1 ⟨⟨r0.1.trans e, r0.2.trans (s.sub fun q j hq => ?_)⟩, m, ⟨?_, r2.2.ext fun j _ => ?_⟩, ?_, ?_⟩
  · have := hq.1
    have := hq.2
    simp only [PMp] at *; omega
  · rw [(s A_M 14 ⟨fun q => absurd q.2 (by decide), by decide⟩).1]; exact r2.1
  · exact (s M_pending j ⟨fun q => absurd q.1 (by decide), by decide⟩).1
  · rw [(s A_M 15 ⟨fun q => absurd q.2 (by decide), by decide⟩).1]; exact r3
  · rw [(s A_M 8 ⟨fun q => absurd q.2 (by decide), by decide⟩).1]; exact r4
theorem S_from {j : Nat} (hj : j ≤ 8) (fM : is_M h0) {p : Nat → Bool} (hp : ∀ k, p k = decide (k ≤ j)) : ∀ (P E : List Nat) (h : AH), RM h0 h P E (P.count 9 + P.count 5) i → E.length + P.length ≤ 40 → (∀ e, e ∈ P → 5 ≤ e ∧ e ≤ 9) → (∀ h1, RM h0 h1 (popp p P E).1 (popp p P E).2 ((popp p P E).1.count 9 + (popp p P E).1.count 5) i → Q h1) → Ev (d + 1) g g m_M_makesFrom 0 [.ref A_M, .int (nI j)] [] h (asV Q)
  | [], E, h, r, hl, h9, hQ => by
    refine w_M_makesFrom_0 (fM.ext r.1.1) ?_
    exact br_le 0 0 r.2.2.1.1 rfl (fun _ => hQ h r) (fun z => by omega)
  | x :: P, E, h, r, hl, h9, hQ => by
    refine w_M_makesFrom_0 (fM.ext r.1.1) ?_
    have hl : E.length + (P.length + 1) ≤ 40 := hl
    have e14 : mi h A_M 14 = nI (P.length + 1) := r.2.2.1.1
    have ex : mi h M_pending P.length = nI x := r.2.2.1.2.1
    have x9 := h9 x (by simp)
    have c9 : P.count 9 ≤ P.length := List.count_le_length
    have c5 : P.count 5 ≤ P.length := List.count_le_length
    have h9' : ∀ e, e ∈ P → 5 ≤ e ∧ e ≤ 9 := fun e he => h9 e (List.mem_cons_of_mem _ he)
    have la : (E ++ [x]).length = E.length + 1 := by rw [List.length_append]; rfl
    rw [e14, nI_dn, mi_nj (show 14 ≠ 15 by decide), mi_eq, mi_nj (show 15 ≠ 14 by decide), r.2.2.2.1, nI_clamp (by omega), mi_ne (show M_pending ≠ A_M by decide), mi_ne (show M_pending ≠ A_M by decide), mi_ne (show M_pending ≠ A_M by decide), ex]
    have v : vp_in (nI P.length) 64 := vp_in_nI (by omega) (by decide)
    refine br_le (P.length + 1) 0 rfl rfl (fun z => by omega) (fun _ => ⟨v, br_lt j x rfl rfl (fun z => ?_) (fun z => ⟨v, br_ne x 5 rfl rfl (fun z5 => ⟨v, ?_⟩) (fun z5 => ⟨v, ?_⟩)⟩)⟩)
    · rw [popp_no (by rw [hp]; simp; omega)] at hQ
      exact hQ h r
    · subst z5
      rw [popp_y (by rw [hp]; simp; omega)] at hQ
      have ec : (5 :: P).count 9 + (5 :: P).count 5 = P.count 9 + P.count 5 + 1 := by rw [List.count_cons, List.count_cons]; rfl
      rw [ec, nI_dn]
      refine S_mkM fM r.w14.w15 (by omega) fun h1 r1 _ => ?_
      exact S_from hj fM hp P (E ++ [5]) h1 r1 (by omega) h9' hQ
    · rw [popp_y (by rw [hp]; simp; omega)] at hQ
      have ec : (x :: P).count 9 + (x :: P).count 5 = P.count 9 + P.count 5 := by rw [List.count_cons, List.count_cons, if_neg (by simp; omega), if_neg (by simp; omega)]; rfl
      rw [ec] at r
      refine S_mkM fM r.w14 (by omega) fun h1 r1 _ => ?_
      exact S_from hj fM hp P (E ++ [x]) h1 r1 (by omega) h9' hQ
theorem S_next (fM : is_M h0) (tx : TX h0 N i t) (r : RM h0 h P E o i) (hK : K (nx t) h) : Ev d g g m_M_next 0 [.ref A_M] [] h (asI K) := by
  refine w_M_next_0 (fM.ext r.1.1) ?_
  obtain ⟨x1, x2, x3, x4, x5⟩ := tx
  rw [r.2.2.2.2, (r.1.2 A_M 7 ⟨fun q => absurd q.2 (by decide), by decide, by decide⟩).1, x2]
  match t, x3, x4, hK with
  | [], x3, _, hK =>
    have x3 : i = N := x3
    exact br_le N i rfl rfl (fun _ => hK) (fun z => by omega)
  | c :: t, x3, x4, hK =>
    have x3 : i + (t.length + 1) = N := x3
    have e : mi h M_text i = nI c := ((r.1.2 M_text i ⟨fun q => absurd q.1 (by decide), by decide, by decide⟩).1).trans (x4 0 (Nat.succ_pos _))
    rw [nI_clamp (by omega), e]
    exact br_le N i rfl rfl (fun z => by omega) (fun _ => ⟨vp_in_nI (by omega) (by decide), hK⟩)
theorem S_atomOf (hc : c < 2147483648) (hK : K (lfI c) h) : Ev d g g m_M_atomOf 0 [.int (nI c)] [] h (asI K) := w_M_atomOf_0 (lf_sw hc hK)
theorem S_atomOf0 (hK : K m1 h) : Ev d g g m_M_atomOf 0 [.int m1] [] h (asI K) := w_M_atomOf_0 ⟨fun q => absurd q (by decide), fun _ => ⟨fun q => absurd q (by decide), fun _ => ⟨fun q => absurd q (by decide), fun _ => ⟨fun q => absurd q (by decide), fun _ => ⟨fun q => absurd q (by decide), fun _ => hK⟩⟩⟩⟩⟩
def omI : List Nat → Int32
  | [] => nI 0
  | c :: _ => match opM c with
    | some k => nI k
    | none => nI 0
theorem S_deedOf {t : List Nat} (h126 : ∀ c, c ∈ t → c ≤ 126) (hK : K (omI t) h) : Ev d g g m_M_deedOf 0 [.int (nx t)] [] h (asI K) := by
  refine w_M_deedOf_0 ?_
  match t, h126, hK with
  | [], _, hK => exact ⟨fun _ => ⟨fun _ => ⟨fun _ => hK, fun q => absurd q (by decide)⟩, fun q => absurd q (by decide)⟩, fun q => absurd q (by decide)⟩
  | c :: t, h126, hK =>
    have hc := h126 c (by simp)
    have hK : K (match opM c with
      | some k => nI k
      | none => nI 0) h := hK
    unfold opM at hK
    show (¬ nI c = nI 38 → _) ∧ (nI c = nI 38 → _)
    refine br_ne c 38 rfl rfl (fun z => by rw [if_pos z] at hK; exact hK) (fun z => ?_)
    rw [if_neg z] at hK
    refine br_ne c 124 rfl rfl (fun z => by rw [if_pos z] at hK; exact hK) (fun z => ?_)
    rw [if_neg z] at hK
    refine br_ne c 62 rfl rfl (fun z => by rw [if_pos z] at hK; exact hK) (fun z => ?_)
    rw [if_neg z] at hK
    exact hK
theorem STK_ix {f : Nat → Int32} : ∀ {st : List Nat}, STK f st → ∀ k, k < st.length → ∃ x, x ∈ st ∧ f k = nI x
  | [], _, k, hk => by cases hk
  | x :: st, s, k, hk => by
    by_cases e : k = st.length
    · exact ⟨x, by simp, by rw [e]; exact s.1⟩
    · have hk : k < st.length + 1 := hk
      obtain ⟨y, hy, e2⟩ := STK_ix s.2 k (by omega)
      exact ⟨y, List.mem_cons_of_mem _ hy, e2⟩
theorem STK_mem {f : Nat → Int32} : ∀ {st : List Nat}, STK f st → ∀ x, x ∈ st → ∃ k, k < st.length ∧ f k = nI x
  | [], _, x, hx => by cases hx
  | y :: st, s, x, hx => by
    rcases List.mem_cons.mp hx with z | z
    · exact ⟨st.length, Nat.lt_succ_self _, by rw [z]; exact s.1⟩
    · obtain ⟨k, hk, e⟩ := STK_mem s.2 x z
      exact ⟨k, Nat.lt_succ_of_lt hk, e⟩
theorem S_hasParen (fM : is_M h0) (r : RM h0 h P E o i) (hl : P.length ≤ 40) (h9 : ∀ e, e ∈ P → 5 ≤ e ∧ e ≤ 9) (hA : P.count 9 = 0 → K (nI 0) h) (hB : ¬ P.count 9 = 0 → K (nI 1) h) : Ev d g g m_M_hasParen 0 [.ref A_M] [] h (asI K) := by
  refine w_M_hasParen_0 (fM.ext r.1.1) ?_
  refine for_up (σ := AH) (fun k hh => Ev d g g m_M_hasParen 2 [.ref A_M, .int (nI k)] [] hh (asI K)) (fun k hh => hh = h ∧ ∀ y, y < k → ¬ mi h M_pending y = nI 9) P.length (fun hh hI => ?_) (fun k hh hk hI ih => ?_) 0 _ (Nat.zero_le _) ⟨rfl, fun y hy => by cases hy⟩
  · obtain ⟨rfl, hI⟩ := hI
    refine w_M_hasParen_2 (fM.ext r.1.1) (br_le _ _ r.2.2.1.1 rfl (fun _ => hA ?_) (fun z => by omega))
    refine List.count_eq_zero.mpr fun q => ?_
    obtain ⟨k, hk, e⟩ := STK_mem r.2.2.1.2 9 q
    exact hI k hk e
  · obtain ⟨rfl, hI⟩ := hI
    refine w_M_hasParen_2 (fM.ext r.1.1) (br_le _ k r.2.2.1.1 rfl (fun z => by omega) (fun _ => ⟨vp_in_nI (by omega) (by decide), ?_⟩))
    obtain ⟨x, hx, e⟩ := STK_ix r.2.2.1.2 k hk
    have x9 := h9 x hx
    rw [nI_clamp (by omega), e, nI_add]
    refine br_ne x 9 rfl rfl (fun z => hB fun q => ?_) (fun z => ih _ ⟨rfl, fun y hy => ?_⟩)
    · exact absurd (by rw [← z]; exact hx) (List.count_eq_zero.mp q)
    · by_cases ey : y = k
      · rw [ey, e]; exact fun q => z (nI_inj (by omega) (by omega) q)
      · exact hI y (by omega)
end RMS
theorem popp_cle {p : Nat → Bool} {z : Nat} : ∀ (W D : List Nat), (popp p W D).1.count z ≤ W.count z
  | [], D => Nat.le_refl _
  | x :: W, D => by
    unfold popp
    by_cases c : p x = true
    · rw [if_pos c, List.count_cons]; exact Nat.le_trans (popp_cle W _) (Nat.le_add_right _ _)
    · rw [if_neg c]; exact Nat.le_refl _
theorem popp_mem {p : Nat → Bool} : ∀ (W D : List Nat) (e : Nat), e ∈ (popp p W D).1 → e ∈ W
  | [], D, e, he => he
  | x :: W, D, e, he => by
    unfold popp at he
    by_cases c : p x = true
    · rw [if_pos c] at he; exact List.mem_cons_of_mem _ (popp_mem W _ e he)
    · rw [if_neg c] at he; exact he
theorem OKM.pop {p : Nat → Bool} {P E : List Nat} {i : Nat} (k : OKM P E i) : OKM (popp p P E).1 (popp p P E).2 i := by
  have l := popp_len (p := p) P E
  have a := popp_cle (p := p) (z := 9) P E
  have b := popp_cle (p := p) (z := 5) P E
  have := k.1
  have := k.2.2
  exact ⟨by omega, fun e he => k.2.1 e (popp_mem _ _ e he), by omega⟩
theorem pop_pcm {P E : List Nat} (h9 : ∀ e, e ∈ P → 5 ≤ e ∧ e ≤ 9) (hc : ¬ P.count 9 = 0) : (popp rM.pc P E).1 = 9 :: (popp rM.pc P E).1.tail := by
  have h1 := popp_cz (p := rM.pc) (z := 9) rfl P E
  have h2 := tp_pop (p := rM.pc) P E
  have h3 := popp_mem (p := rM.pc) P E
  revert h1 h2 h3
  generalize (popp rM.pc P E).1 = W2
  intro h1 h2 h3
  match W2 with
  | [] => exact absurd h1.symm hc
  | k :: W3 =>
    have h2 : decide (k ≤ 8) = false := h2.resolve_left (by intro z; cases z)
    have h4 := h9 k (h3 k (by simp))
    have : k = 9 := by have := of_decide_eq_false h2; omega
    rw [this]; rfl
theorem pop_pcm0 {P E : List Nat} (h9 : ∀ e, e ∈ P → 5 ≤ e ∧ e ≤ 9) (hc : P.count 9 = 0) : (popp rM.pc P E).1 = [] := by
  have h1 := popp_cz (p := rM.pc) (z := 9) rfl P E
  have h2 := tp_pop (p := rM.pc) P E
  have h3 := popp_mem (p := rM.pc) P E
  revert h1 h2 h3
  generalize (popp rM.pc P E).1 = W2
  intro h1 h2 h3
  match W2 with
  | [] => rfl
  | k :: W3 =>
    have h2 : decide (k ≤ 8) = false := h2.resolve_left (by intro z; cases z)
    have h4 := h9 k (h3 k (by simp))
    have : k = 9 := by have := of_decide_eq_false h2; omega
    subst this
    rw [List.count_cons, if_pos (by simp)] at h1
    omega

/-! parse, the class -/
def PTx (q j : Nat) : Prop := (q = 5 → j = 0) ∧ q ≠ 7 ∧ q ≠ 8
def RCx (h0 h : AH) : Prop := Ext h0 h ∧ sm PTx h0 h
def RC (h0 h : AH) (W D : List Nat) (o s f : Nat) : Prop := RCx h0 h ∧ (mi h A_text 2 = nI D.length ∧ ∀ y, y < D.length → mi h (A_text + 2) y = nI (D.getD y 0)) ∧ (mi h A_text 5 = nI W.length ∧ STK (mi h (A_text + 3)) W) ∧ mi h A_text 6 = nI o ∧ mi h A_text 7 = nI s ∧ mi h A_text 8 = nI f
section RCS
variable {h0 h : AH} {W D : List Nat} {o s f : Nat}
theorem RCx.w (r : RCx h0 h) {j : Nat} {v : Int32} (hj : j ≠ 0) : RCx h0 (wi h A_text j v) := ⟨r.1.trans (ext_wi _ _ _ _), r.2.wi fun q => hj (q.1 rfl)⟩
theorem RC.w5 {x : Nat} (r : RC h0 h (x :: W) D o s f) : RC h0 (wi h A_text 5 (nI W.length)) W D o s f := by
  obtain ⟨r0, r1, r2, r3, r4, r5⟩ := r
  exact ⟨r0.w (by decide), ⟨by rw [mi_nj (by decide)]; exact r1.1, fun y hy => by rw [mi_ne (by decide)]; exact r1.2 y hy⟩, ⟨mi_eq, r2.2.2.ext fun j _ => mi_ne (by decide)⟩, by rw [mi_nj (by decide)]; exact r3, by rw [mi_nj (by decide)]; exact r4, by rw [mi_nj (by decide)]; exact r5⟩
theorem RC.w6 {o2 : Nat} (r : RC h0 h W D o s f) : RC h0 (wi h A_text 6 (nI o2)) W D o2 s f := by
  obtain ⟨r0, r1, r2, r3, r4, r5⟩ := r
  exact ⟨r0.w (by decide), ⟨by rw [mi_nj (by decide)]; exact r1.1, fun y hy => by rw [mi_ne (by decide)]; exact r1.2 y hy⟩, ⟨by rw [mi_nj (by decide)]; exact r2.1, r2.2.ext fun j _ => mi_ne (by decide)⟩, mi_eq, by rw [mi_nj (by decide)]; exact r4, by rw [mi_nj (by decide)]; exact r5⟩
theorem RC.w7 {o2 : Nat} (r : RC h0 h W D o s f) : RC h0 (wi h A_text 7 (nI o2)) W D o o2 f := by
  obtain ⟨r0, r1, r2, r3, r4, r5⟩ := r
  exact ⟨r0.w (by decide), ⟨by rw [mi_nj (by decide)]; exact r1.1, fun y hy => by rw [mi_ne (by decide)]; exact r1.2 y hy⟩, ⟨by rw [mi_nj (by decide)]; exact r2.1, r2.2.ext fun j _ => mi_ne (by decide)⟩, by rw [mi_nj (by decide)]; exact r3, mi_eq, by rw [mi_nj (by decide)]; exact r5⟩
theorem RC.w8 {o2 : Nat} (r : RC h0 h W D o s f) : RC h0 (wi h A_text 8 (nI o2)) W D o s o2 := by
  obtain ⟨r0, r1, r2, r3, r4, r5⟩ := r
  exact ⟨r0.w (by decide), ⟨by rw [mi_nj (by decide)]; exact r1.1, fun y hy => by rw [mi_ne (by decide)]; exact r1.2 y hy⟩, ⟨by rw [mi_nj (by decide)]; exact r2.1, r2.2.ext fun j _ => mi_ne (by decide)⟩, by rw [mi_nj (by decide)]; exact r3, by rw [mi_nj (by decide)]; exact r4, mi_eq⟩
variable {d g c : Nat} {Q : AH → Prop} {K : Int32 → AH → Prop}
theorem S_emit (f0 : is_T h0 A_text) (r : RC h0 h W D o s f) (hl : D.length < 40) (hQ : ∀ h1, RC h0 h1 W (D ++ [c]) o s f → Q h1) : Ev d g g m_T_emit 0 [.ref A_text, .int (nI c)] [] h (asV Q) := by
  refine w_T_emit_0 (f0.ext r.1.1) ?_
  obtain ⟨r0, r1, r2, r3, r4, r5⟩ := r
  rw [mi_ne (show A_text ≠ A_text + 2 by decide), r1.1, nI_clamp (by omega), nI_add D.length 1]
  refine br_le 40 D.length rfl rfl (fun z => by omega) (fun _ => ⟨vp_in_nI hl (by decide), hQ _ ⟨⟨(r0.1.trans (ext_wi _ _ _ _)).trans (ext_wi _ _ _ _), (r0.2.wi fun q => q.2.1 rfl).wi fun q => absurd (q.1 rfl) (by decide)⟩, ⟨by rw [mi_eq, List.length_append]; rfl, fun y hy => ?_⟩, ⟨?_, ?_⟩, ?_, ?_, ?_⟩⟩)
  · have hy : y < D.length + 1 := by rw [List.length_append] at hy; exact hy
    rw [mi_ne (by decide), getD_snoc hy]
    by_cases e : y = D.length
    · rw [if_pos e, e]; exact mi_eq
    · rw [if_neg e, mi_nj e]; exact r1.2 y (by omega)
  · rw [mi_nj (by decide), mi_ne (by decide)]; exact r2.1
  · exact r2.2.ext fun j _ => by rw [mi_ne (by decide), mi_ne (by decide)]
  · rw [mi_nj (by decide), mi_ne (by decide)]; exact r3
  · rw [mi_nj (by decide), mi_ne (by decide)]; exact r4
  · rw [mi_nj (by decide), mi_ne (by decide)]; exact r5
theorem S_hold (f0 : is_T h0 A_text) (r : RC h0 h W D o s f) (hl : W.length < 40) (hQ : ∀ h1, RC h0 h1 (c :: W) D o s f → Q h1) : Ev d g g m_T_hold 0 [.ref A_text, .int (nI c)] [] h (asV Q) := by
  refine w_T_hold_0 (f0.ext r.1.1) ?_
  obtain ⟨r0, r1, r2, r3, r4, r5⟩ := r
  rw [mi_ne (show A_text ≠ A_text + 3 by decide), r2.1, nI_clamp (by omega), nI_add W.length 1]
  refine br_le 40 W.length rfl rfl (fun z => by omega) (fun _ => ⟨vp_in_nI hl (by decide), hQ _ ⟨⟨(r0.1.trans (ext_wi _ _ _ _)).trans (ext_wi _ _ _ _), (r0.2.wi fun q => q.2.2 rfl).wi fun q => absurd (q.1 rfl) (by decide)⟩, ⟨?_, fun y hy => ?_⟩, ⟨mi_eq, ?_, ?_⟩, ?_, ?_, ?_⟩⟩)
  · rw [mi_nj (by decide), mi_ne (by decide)]; exact r1.1
  · rw [mi_ne (by decide), mi_ne (by decide)]; exact r1.2 y hy
  · rw [mi_ne (by decide)]; exact mi_eq
  · exact r2.2.ext fun j hj => by rw [mi_ne (by decide), mi_nj (fun (z : j = W.length) => by omega)]
  · rw [mi_nj (by decide), mi_ne (by decide)]; exact r3
  · rw [mi_nj (by decide), mi_ne (by decide)]; exact r4
  · rw [mi_nj (by decide), mi_ne (by decide)]; exact r5
theorem popp_y {p : Nat → Bool} {x : Nat} {W D : List Nat} (e : p x = true) : popp p (x :: W) D = popp p W (D ++ [x]) := if_pos e
theorem popp_no {p : Nat → Bool} {x : Nat} {W D : List Nat} (e : p x = false) : popp p (x :: W) D = (x :: W, D) := if_neg (by rw [e]; decide)
theorem S_release {j : Nat} (hj : j ≤ 8) (f0 : is_T h0 A_text) : ∀ (W D : List Nat) (h : AH), RC h0 h W D o s f → D.length + W.length ≤ 40 → (∀ e, e ∈ W → e ≤ 8) → (∀ h1, RC h0 h1 (popp (rC.po j) W D).1 (popp (rC.po j) W D).2 o s f → Q h1) → Ev (d + 1) g g m_T_releaseAbove 0 [.ref A_text, .int (nI j)] [] h (asV Q)
  | [], D, h, r, hl, h8, hQ => by
    refine w_T_releaseAbove_0 (f0.ext r.1.1) ?_
    exact br_le 0 0 r.2.2.1.1 rfl (fun _ => hQ h r) (fun z => by omega)
  | x :: W, D, h, r, hl, h8, hQ => by
    refine w_T_releaseAbove_0 (f0.ext r.1.1) ?_
    have hl : D.length + (W.length + 1) ≤ 40 := hl
    have e5 : mi h A_text 5 = nI (W.length + 1) := r.2.2.1.1
    have e8 : mi h (A_text + 3) W.length = nI x := r.2.2.1.2.1
    have x8 := h8 x (by simp)
    rw [e5, nI_dn, mi_eq, nI_clamp (by omega), mi_ne (show A_text + 3 ≠ A_text by decide), e8]
    refine br_le (W.length + 1) 0 rfl rfl (fun z => by omega) (fun _ => ⟨vp_in_nI (by omega) (by decide), br_le x j rfl rfl (fun z => ?_) (fun z => ⟨vp_in_nI (by omega) (by decide), ?_⟩)⟩)
    · rw [popp_no (show decide (j < x) = false by simp; omega)] at hQ
      exact hQ h r
    · rw [popp_y (show decide (j < x) = true by simp; omega)] at hQ
      refine S_emit f0 r.w5 (by omega) fun h1 r1 _ => ?_
      exact S_release hj f0 W (D ++ [x]) h1 r1 (by rw [List.length_append]; show D.length + 1 + W.length ≤ 40; omega) (fun e he => h8 e (List.mem_cons_of_mem _ he)) hQ
theorem S_endLoop (f0 : is_T h0 A_text) : ∀ (W D : List Nat) (h : AH), RC h0 h W D o (W.count 0 + W.count 8) f → D.length + W.length ≤ 40 → (∀ e, e ∈ W → e ≤ 8) → (∀ h1, RC h0 h1 (popp rC.pn W D).1 (popp rC.pn W D).2 o ((popp rC.pn W D).1.count 0 + (popp rC.pn W D).1.count 8) f → Q h1) → Ev (d + 1) g g m_T_endFactor 5 [.ref A_text] [] h (asV Q)
  | [], D, h, r, hl, h8, hQ => by
    refine w_T_endFactor_5 (f0.ext r.1.1) ?_
    exact br_le 0 0 r.2.2.1.1 rfl (fun _ => hQ h r) (fun z => by omega)
  | x :: W, D, h, r, hl, h8, hQ => by
    refine w_T_endFactor_5 (f0.ext r.1.1) ?_
    have hl : D.length + (W.length + 1) ≤ 40 := hl
    have e5 : mi h A_text 5 = nI (W.length + 1) := r.2.2.1.1
    have e8 : mi h (A_text + 3) W.length = nI x := r.2.2.1.2.1
    have x8 := h8 x (by simp)
    rw [e5, nI_dn, nI_clamp (by omega), mi_nj (show 7 ≠ 5 by decide), e8]
    refine br_le (W.length + 1) 0 rfl rfl (fun z => by omega) (fun _ => ⟨vp_in_nI (by omega) (by decide), br_ne x 8 rfl rfl (fun z => ?_) (fun z => ?_)⟩)
    · subst z
      rw [popp_y (show decide (8 = 8) = true by decide)] at hQ
      have e7 : mi h A_text 7 = nI (W.count 0 + W.count 8 + 1) := by
        rw [r.2.2.2.2.1, List.count_cons, List.count_cons]; rfl
      rw [e7, nI_dn]
      refine S_emit f0 r.w5.w7 (by omega) fun h1 r1 _ => ?_
      exact S_endLoop f0 W (D ++ [8]) h1 r1 (by rw [List.length_append]; show D.length + 1 + W.length ≤ 40; omega) (fun e he => h8 e (List.mem_cons_of_mem _ he)) hQ
    · rw [popp_no (show decide (x = 8) = false by simp [z])] at hQ
      exact hQ h r
theorem S_endFactor (f0 : is_T h0 A_text) (r : RC h0 h W D o (W.count 0 + W.count 8) f) (hl : D.length + W.length ≤ 40) (h8 : ∀ e, e ∈ W → e ≤ 8) (hQ : ∀ h1, RC h0 h1 (popp rC.pn W D).1 (popp rC.pn W D).2 o ((popp rC.pn W D).1.count 0 + (popp rC.pn W D).1.count 8) 0 → Q h1) : Ev (d + 1) g g m_T_endFactor 0 [.ref A_text] [] h (asV Q) :=
  w_T_endFactor_0 (f0.ext r.1.1) (S_endLoop f0 W D _ r.w8 hl h8 hQ)
def lfI (c : Nat) : Int32 := match leafN c with
  | some a => nI a
  | none => m1
theorem lf_sw {c : Nat} {h : AH} (hc : c < 2147483648) (hK : K (lfI c) h) : (nI c = (nI 48) → K (nI 3) h) ∧ (¬ nI c = (nI 48) → (nI c = (nI 49) → K (nI 4) h) ∧ (¬ nI c = (nI 49) → (nI c = (nI 112) → K (nI 0) h) ∧ (¬ nI c = (nI 112) → (nI c = (nI 113) → K (nI 1) h) ∧ (¬ nI c = (nI 113) → (nI c = (nI 114) → K (nI 2) h) ∧ (¬ nI c = (nI 114) → K (cI (.negSucc 0)) h))))) := by
  unfold lfI leafN at hK
  refine br_eq c 48 rfl rfl (fun z => by rw [if_pos z] at hK; exact hK) (fun z => ?_)
  rw [if_neg z] at hK
  refine br_eq c 49 rfl rfl (fun z => by rw [if_pos z] at hK; exact hK) (fun z => ?_)
  rw [if_neg z] at hK
  refine br_eq c 112 rfl rfl (fun z => by rw [if_pos z] at hK; exact hK) (fun z => ?_)
  rw [if_neg z] at hK
  refine br_eq c 113 rfl rfl (fun z => by rw [if_pos z] at hK; exact hK) (fun z => ?_)
  rw [if_neg z] at hK
  refine br_eq c 114 rfl rfl (fun z => by rw [if_pos z] at hK; exact hK) (fun z => ?_)
  rw [if_neg z] at hK
  exact hK
theorem S_leafOf {c : Nat} (hc : c < 2147483648) (hK : K (lfI c) h) : Ev d g g m_T_leafOf 0 [.int (nI c)] [] h (asI K) := w_T_leafOf_0 (lf_sw hc hK)
theorem lfI_s {c a : Nat} (e : leafN c = some a) : lfI c = nI a := by unfold lfI; rw [e]
theorem lfI_n {c : Nat} (e : leafN c = none) : lfI c = m1 := by unfold lfI; rw [e]
theorem nI_m1 {a : Nat} (h : a < 2147483648) : ¬ nI a = cI (.negSucc 0) := fun z => by
  have := nI_nn h
  rw [z] at this
  exact absurd this (by decide)
theorem S_takeIn (hc : c ≤ 126) (f0 : is_T h0 A_text) (w : wfW W) (r : RC h0 h W D (W.count 0) (W.count 0 + W.count 8) 1) (hl : D.length + W.length < 40)
    (hA : ∀ a h1, leafN c = some a → RC h0 h1 (popp rC.pn W (D ++ [a])).1 (popp rC.pn W (D ++ [a])).2 (W.count 0) ((popp rC.pn W (D ++ [a])).1.count 0 + (popp rC.pn W (D ++ [a])).1.count 8) 0 → K (nI 1) h1)
    (hB : ∀ h1, leafN c = none → ((c = 40 ∨ c = 126) ∧ W.count 0 + W.count 8 < 8) → RC h0 h1 ((if c = 40 then 0 else 8) :: W) D (((if c = 40 then 0 else 8) :: W).count 0) (((if c = 40 then 0 else 8) :: W).count 0 + ((if c = 40 then 0 else 8) :: W).count 8) 1 → K (nI 1) h1)
    (hC : leafN c = none → ¬ ((c = 40 ∨ c = 126) ∧ W.count 0 + W.count 8 < 8) → K (nI 0) h) : Ev (d + 2) g g m_T_takeInFactor 0 [.ref A_text, .int (nI c)] [] h (asI K) := by
  have c0 : W.count 0 ≤ W.length := List.count_le_length
  have c8 : W.count 8 ≤ W.length := List.count_le_length
  have h8 : ∀ e, e ∈ W → e ≤ 8 := fun e he => by have := wfW_mem w e he; omega
  refine w_T_takeInFactor_0 (f0.ext r.1.1) (S_leafOf (by omega) fun _ => ?_)
  cases e : leafN c with
  | some a =>
    rw [lfI_s e]
    have a5 := leafN_5 e
    refine ⟨fun z => absurd z (nI_m1 (by omega)), fun _ => S_emit f0 r (by omega) fun h1 r1 _ => S_endFactor f0 r1 (by rw [List.length_append]; show D.length + 1 + W.length ≤ 40; omega) h8 fun h2 r2 _ => hA a h2 e r2⟩
  | none =>
    rw [lfI_n e]
    refine ⟨fun _ => ?_, fun z => absurd rfl z⟩
    rw [mi_nj (show 6 ≠ 7 by decide), r.2.2.2.1, r.2.2.2.2.1, nI_add (W.count 0 + W.count 8) 1, nI_add (W.count 0) 1]
    refine br_eq c 40 rfl rfl (fun z => ?_) (fun z => ?_)
    · subst z
      refine br_lt (W.count 0 + W.count 8) 8 rfl rfl (fun z8 => ⟨fun q => absurd rfl q, fun _ => ⟨fun q => absurd rfl q, fun _ => ?_⟩⟩) (fun z8 => hC e (by omega))
      refine S_hold f0 r.w7.w6 (by omega) fun h1 r1 _ => hB h1 e ⟨Or.inl rfl, z8⟩ ?_
      rw [if_pos rfl, List.count_cons, List.count_cons]
      show RC h0 h1 (0 :: W) D (W.count 0 + 1) (W.count 0 + 1 + (W.count 8 + 0)) 1
      rw [show W.count 0 + 1 + (W.count 8 + 0) = W.count 0 + W.count 8 + 1 by omega]
      exact r1
    · refine br_ne c 126 rfl rfl (fun z2 => ?_) (fun z2 => hC e (by omega))
      subst z2
      refine br_lt (W.count 0 + W.count 8) 8 rfl rfl (fun z8 => ⟨fun _ => ⟨fun _ => ?_, fun q => absurd q (by decide)⟩, fun q => absurd q (by decide)⟩) (fun z8 => hC e (by omega))
      refine S_hold f0 r.w7 (by omega) fun h1 r1 _ => hB h1 e ⟨Or.inr rfl, z8⟩ ?_
      rw [if_neg (by decide), List.count_cons, List.count_cons]
      exact r1
theorem cnt8_pop {j : Nat} : ∀ (W D : List Nat), wfW W → tpc W ≤ 7 → (popp (rC.po j) W D).1.count 8 = W.count 8
  | [], D, _, _ => rfl
  | x :: W, D, w, ht => by
    have ht : x ≤ 7 := ht
    by_cases c : j < x
    · rw [popp_y (show decide (j < x) = true by simp; omega), List.count_cons, if_neg (by simp; omega)]
      have hx : x = 0 ∨ (5 ≤ x ∧ x ≤ 8) := w.1
      have hw : 5 ≤ x → x ≤ 7 → tpc W ≤ x := w.2.1
      exact cnt8_pop W _ w.2.2 (by omega)
    · rw [popp_no (show decide (j < x) = false by simp; omega)]
def ocI (c : Nat) : Int32 := match opC c with
  | some a => nI a
  | none => m1
theorem ocI_s {c a : Nat} (e : opC c = some a) : ocI c = nI a := by unfold ocI; rw [e]
theorem ocI_n {c : Nat} (e : opC c = none) : ocI c = m1 := by unfold ocI; rw [e]
theorem oc_sw {c : Nat} {h : AH} (hc : c < 2147483648) (hK : K (ocI c) h) : (nI c = (nI 38) → K (nI 7) h) ∧ (¬ nI c = (nI 38) → (nI c = (nI 62) → K (nI 5) h) ∧ (¬ nI c = (nI 62) → (nI c = (nI 124) → K (nI 6) h) ∧ (¬ nI c = (nI 124) → K (cI (.negSucc 0)) h))) := by
  unfold ocI opC at hK
  refine br_eq c 38 rfl rfl (fun z => by rw [if_pos z] at hK; exact hK) (fun z => ?_)
  rw [if_neg z] at hK
  refine br_eq c 62 rfl rfl (fun z => by rw [if_pos z] at hK; exact hK) (fun z => ?_)
  rw [if_neg z] at hK
  refine br_eq c 124 rfl rfl (fun z => by rw [if_pos z] at hK; exact hK) (fun z => ?_)
  rw [if_neg z] at hK
  exact hK
theorem S_operatorOf {c : Nat} (hc : c < 2147483648) (hK : K (ocI c) h) : Ev d g g m_T_operatorOf 0 [.int (nI c)] [] h (asI K) := w_T_operatorOf_0 (oc_sw hc hK)
theorem opC_8 {c a : Nat} (e : opC c = some a) : 5 ≤ a ∧ a ≤ 7 := by
  rcases opC_c (c := c) with ⟨-, e1, -⟩ | ⟨-, e1, -⟩ | ⟨-, e1, -⟩ | ⟨e1, -⟩ <;> rw [e] at e1 <;> (first | (injection e1 with e1; omega) | (cases e1))
theorem S_takeBehind (hc : c ≤ 126) (f0 : is_T h0 A_text) (w : wfW W) (ht : tpc W ≤ 7) (r : RC h0 h W D (W.count 0) (W.count 0 + W.count 8) 0) (hl : D.length + W.length < 40)
    (hA : ∀ h1, c = 41 → ¬ W.count 0 = 0 → RC h0 h1 (popp rC.pn (popp rC.pc W D).1.tail (popp rC.pc W D).2).1 (popp rC.pn (popp rC.pc W D).1.tail (popp rC.pc W D).2).2 ((popp rC.pc W D).1.tail.count 0) ((popp rC.pn (popp rC.pc W D).1.tail (popp rC.pc W D).2).1.count 0 + (popp rC.pn (popp rC.pc W D).1.tail (popp rC.pc W D).2).1.count 8) 0 → K (nI 1) h1)
    (hB : ∀ k h1, c ≠ 41 → opC c = some k → RC h0 h1 (k :: (popp (rC.po k) W D).1) (popp (rC.po k) W D).2 (W.count 0) (W.count 0 + W.count 8) 1 → K (nI 1) h1)
    (hC : c = 41 → W.count 0 = 0 → K (nI 0) h) (hD : c ≠ 41 → opC c = none → K (nI 0) h) : Ev (d + 3) g g m_T_takeBehindFactor 0 [.ref A_text, .int (nI c)] [] h (asI K) := by
  have c0 : W.count 0 ≤ W.length := List.count_le_length
  have h8 : ∀ e, e ∈ W → e ≤ 8 := fun e he => by have := wfW_mem w e he; omega
  refine w_T_takeBehindFactor_0 (f0.ext r.1.1) (br_ne c 41 rfl rfl (fun z => ?_) (fun z => ?_))
  · refine w_T_closeParenthesis_0 (f0.ext r.1.1) ?_
    refine br_ne (W.count 0) 0 r.2.2.2.1 rfl (fun q => fun _ => ⟨by decide, hC z q⟩) (fun q => ?_)
    refine S_release (j := 0) (by decide) f0 W D h r (by omega) h8 fun h1 r1 _ => ?_
    have hp := pop_pc (D := D) w q
    have ln := popp_len (p := rC.pc) W D
    have cz := popp_cz (p := rC.pc) (z := 0) rfl W D
    have c8 : (popp rC.pc W D).1.count 8 = W.count 8 := cnt8_pop (j := 0) W D w ht
    have wp := wfW_pop (p := rC.pc) W D w
    have r1 : RC h0 h1 (popp rC.pc W D).1 (popp rC.pc W D).2 (W.count 0) (W.count 0 + W.count 8) 0 := r1
    rw [hp, List.count_cons] at cz c8
    have cz : (popp rC.pc W D).1.tail.count 0 + 1 = W.count 0 := cz
    have c8 : (popp rC.pc W D).1.tail.count 8 + 0 = W.count 8 := c8
    have hA := fun h1 => hA h1 z q
    rw [← cz, ← c8] at r1
    revert hp ln wp r1 hA
    generalize popp rC.pc W D = s
    obtain ⟨W2, D2⟩ := s
    intro hp ln wp r1 hA
    have hp : W2 = 0 :: W2.tail := hp
    have r1 : RC h0 h1 W2 D2 (W2.tail.count 0 + 1) (W2.tail.count 0 + 1 + (W2.tail.count 8 + 0)) 0 := r1
    have ln : D2.length + W2.length = D.length + W.length := ln
    have wp : wfW W2 := wp
    have hA : ∀ h1, RC h0 h1 (popp rC.pn W2.tail D2).1 (popp rC.pn W2.tail D2).2 (W2.tail.count 0) ((popp rC.pn W2.tail D2).1.count 0 + (popp rC.pn W2.tail D2).1.count 8) 0 → K (nI 1) h1 := hA
    clear cz c8
    revert hp r1 ln wp hA
    generalize W2.tail = W3
    intro hp r1 ln wp hA
    subst hp
    have ln : D2.length + (W3.length + 1) = D.length + W.length := ln
    have e5 : mi h1 A_text 5 = nI (W3.length + 1) := r1.2.2.1.1
    have t0 : W3.count 0 ≤ W3.length := List.count_le_length
    have t8 : W3.count 8 ≤ W3.length := List.count_le_length
    refine br_le (W3.length + 1) 0 e5 rfl (fun y => by omega) (fun _ => ?_)
    rw [mi_nj (show 7 ≠ 6 by decide), mi_nj (show 7 ≠ 5 by decide), mi_nj (show 6 ≠ 5 by decide), e5, r1.2.2.2.1, r1.2.2.2.2.1, nI_dn, nI_dn, show W3.count 0 + 1 + (W3.count 8 + 0) = W3.count 0 + W3.count 8 + 1 by omega, nI_dn]
    exact S_endFactor f0 r1.w5.w6.w7 (by omega) (fun e he => by have := wfW_mem wp.2.2 e he; omega) fun h2 r2 _ => fun _ => ⟨by decide, hA h2 r2⟩
  · refine S_operatorOf (by omega) fun _ => ?_
    cases e : opC c with
    | none =>
      rw [ocI_n e]
      exact ⟨fun q => absurd rfl q, fun _ => hD z e⟩
    | some k =>
      rw [ocI_s e]
      have k7 := opC_8 e
      refine ⟨fun _ => ?_, fun q => absurd q (nI_m1 (by omega))⟩
      refine S_release (j := k) (by omega) f0 W D h r (by omega) h8 fun h1 r1 _ => ?_
      have ln := popp_len (p := rC.po k) W D
      exact S_hold f0 r1 (by omega) fun h2 r2 _ => hB k _ z e r2.w8
end RCS

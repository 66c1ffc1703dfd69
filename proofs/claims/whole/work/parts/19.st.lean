/-! the state that class and reference share, and how each holds it -/
abbrev PT : Type := Nat × (Nat → Nat) × (Nat → Nat)
abbrev FT : Type := Nat × (Nat → Nat) × (Nat → Int32) × (Nat → Int32) × (Nat → Int32)
abbrev RwT : Type := Option (Nat × Nat × (Nat → Int32))
abbrev St : Type := (Nat → PT) × List Nat × (Nat → List Nat × List Nat) × List Nat × FT × (Nat → RwT) × Nat
abbrev sP (S : St) : Nat → PT := S.1
abbrev sT (S : St) : List Nat := S.2.1
abbrev sF (S : St) : Nat → List Nat × List Nat := S.2.2.1
abbrev sG (S : St) : List Nat := S.2.2.2.1
abbrev sD (S : St) : FT := S.2.2.2.2.1
abbrev sR (S : St) : Nat → RwT := S.2.2.2.2.2.1
abbrev sL (S : St) : Nat := S.2.2.2.2.2.2
def setP (S : St) (i : Nat) (p : PT) : St := (fun j => if j = i then p else sP S j, S.2)
def setT (S : St) (t : List Nat) : St := (sP S, t, S.2.2)
def setF (S : St) (i : Nat) (p : List Nat × List Nat) : St := (sP S, sT S, fun j => if j = i then p else sF S j, S.2.2.2)
def setG (S : St) (t : List Nat) : St := (sP S, sT S, sF S, t, S.2.2.2.2)
def setD (S : St) (t : FT) : St := (sP S, sT S, sF S, sG S, t, S.2.2.2.2.2)
def setR (S : St) (i : Nat) (t : RwT) : St := (sP S, sT S, sF S, sG S, sD S, fun j => if j = i then t else sR S j, sL S)
def setL (S : St) (t : Nat) : St := (sP S, sT S, sF S, sG S, sD S, sR S, t)
abbrev pE (p : PT) : List Nat := elems p.1 p.2.1
def wPT (p : PT) : Prop := wfP p.1 p.2.1 ∧ ∀ v, v < 3 → p.2.2 v < (pE p).length
/-! formulas: two rows of signs in postfix order, of one meaning -/
def runC (I : Nat → Nat → Nat) (T : Nat) (env : Nat → Nat) : List Nat → List Nat → Option (List Nat)
  | [], st => some st
  | c :: l, st => match c, st with
    | 3, st => runC I T env l (0 :: st)
    | 4, st => runC I T env l (T :: st)
    | 5, y :: x :: st => runC I T env l (I x y :: st)
    | 6, y :: x :: st => runC I T env l ((x ||| y) :: st)
    | 7, y :: x :: st => runC I T env l ((x &&& y) :: st)
    | 8, x :: st => runC I T env l (I x 0 :: st)
    | 0, st => runC I T env l (env 0 :: st)
    | 1, st => runC I T env l (env 1 :: st)
    | 2, st => runC I T env l (env 2 :: st)
    | _, _ => none
def runM (I : Nat → Nat → Nat) (T : Nat) (env : Nat → Nat) : List Nat → List Nat → Option (List Nat)
  | [], st => some st
  | c :: l, st => match c, st with
    | 3, st => runM I T env l (0 :: st)
    | 4, st => runM I T env l (T :: st)
    | 5, x :: st => runM I T env l (I x 0 :: st)
    | 6, y :: x :: st => runM I T env l ((x &&& y) :: st)
    | 7, y :: x :: st => runM I T env l ((x ||| y) :: st)
    | 8, y :: x :: st => runM I T env l (I x y :: st)
    | 0, st => runM I T env l (env 0 :: st)
    | 1, st => runM I T env l (env 1 :: st)
    | 2, st => runM I T env l (env 2 :: st)
    | _, _ => none
def FOK (p : List Nat × List Nat) : Prop := p.1.length = p.2.length ∧ p.1.length ≤ 60 ∧ (∀ v, v < 3 → p.1.count v = p.2.count v) ∧ (p.1 ≠ [] → ∀ I T env, ∃ x, ∀ st, runC I T env p.1 st = some (x :: st) ∧ runM I T env p.2 st = some (x :: st))
/-! the class's cells -/
def CT (h : AH) (t : List Nat) : Prop := mi h A_text 0 = nI t.length ∧ ∀ i, i < t.length → mi h (A_text + 1) i = nI (t.getD i 0)
def CFo (h : AH) (i : Nat) (l : List Nat) : Prop := mi h (aF i) 0 = nI l.length ∧ ∀ k, k < l.length → mi h (aF i + 1) k = nI (l.getD k 0)
def CG (h : AH) (l : List Nat) : Prop := mi h A_x 5 = nI l.length ∧ ∀ k, k < l.length → mi h A_gens k = nI (l.getD k 0)
def CD (h : AH) (f : FT) : Prop := mi h A_sub 0 = nI f.1 ∧ ∀ k, k < f.1 → ml h (A_sub + 1) k = lN (f.2.1 k) ∧ mi h (A_sub + 2) k = f.2.2.1 k ∧ mi h (A_sub + 3) k = f.2.2.2.1 k ∧ mi h (A_sub + 4) k = f.2.2.2.2 k
def CR (h : AH) (r : Nat) (w : RwT) : Prop := match w with
  | none => mi h (aR r) 1 = m1
  | some (t, n, f) => mi h (aR r) 0 = nI t ∧ mi h (aR r) 1 = nI n ∧ ∀ k, k < n → mi h (aR r + 1) k = f k
def InvC (h : AH) (S : St) : Prop := is_C h ∧ (∀ i, i < 4 → PC h (aP i) (sP S i).1 (sP S i).2.1 (sP S i).2.2) ∧ CT h (sT S) ∧ (∀ i, i < 6 → CFo h i (sF S i).1) ∧ CG h (sG S) ∧ CD h (sD S) ∧ (∀ r, r < 3 → CR h r (sR S r)) ∧ mi h A_x 7 = nI (sL S)
/-! the reference's cells -/
def MT (h : AH) (t : List Nat) : Prop := mi h A_M 7 = nI t.length ∧ ∀ i, i < t.length → mi h M_text i = nI (t.getD i 0)
def MV (h : AH) (i : Nat) (val : Nat → Nat) : Prop := ∀ v, v < 3 → mi h M_valued (3 * i + v) = nI (val v)
def MFo (h : AH) (i : Nat) (l : List Nat) : Prop := mi h M_formulaSizes i = nI l.length ∧ ∀ k, k < l.length → mi h M_formula (60 * i + k) = nI (l.getD k 0)
def MG (h : AH) (l : List Nat) : Prop := mi h A_M 25 = nI l.length ∧ ∀ k, k < l.length → mi h M_generators k = nI (l.getD k 0)
def MD (h : AH) (f : FT) : Prop := mi h A_M 26 = (if f.1 = 0 then m1 else nI f.1) ∧ ∀ k, k < f.1 → ml h M_cost k = lN (f.2.1 k) ∧ mi h M_operator k = f.2.2.1 k ∧ mi h M_left k = f.2.2.2.1 k ∧ mi h M_right k = f.2.2.2.2 k
def MR (h : AH) (r : Nat) (w : RwT) : Prop := match w with
  | none => mi h M_rowType r = m1
  | some (t, n, f) => mi h M_rowType r = nI t ∧ mi h M_rowLength r = nI n ∧ ∀ k, k < n → mi h M_rows (30 * r + k) = f k
def InvM (h : AH) (S : St) : Prop := is_M h ∧ (∀ i, i < 4 → MO h i (sP S i).1 (sP S i).2.1 ∧ MV h i (sP S i).2.2) ∧ MT h (sT S) ∧ (∀ i, i < 6 → MFo h i (sF S i).2) ∧ MG h (sG S) ∧ MD h (sD S) ∧ (∀ r, r < 3 → MR h r (sR S r)) ∧ mi h A_M 32 = nI (sL S)
/-- what holds of the state alone -/
def WS (S : St) : Prop := (∀ i, i < 4 → wPT (sP S i)) ∧ ((sT S).length ≤ 40 ∧ ∀ c, c ∈ sT S → 33 ≤ c ∧ c ≤ 126) ∧ (∀ i, i < 6 → FOK (sF S i)) ∧ ((sG S).length ≤ 4 ∧ ∀ c, c ∈ sG S → c < 64) ∧ ((sD S).1 ≤ 64 ∧ ∀ k, (sD S).2.1 k < 2 ^ 63) ∧ (∀ r t n f, r < 3 → sR S r = some (t, n, f) → t < 3 ∧ n ≤ 30) ∧ sL S < 4
abbrev FrM (h h1 : AH) : Prop := sm (fun a _ => a = 0 ∨ (73 ≤ a ∧ a ≤ 95)) h h1
abbrev FrC (h h1 : AH) : Prop := sm (fun a _ => a ≤ 72) h h1
/-! what stays -/
theorem PC.keep {h h1 : AH} {a n : Nat} {up val : Nat → Nat} {P : Nat → Nat → Prop} (c : PC h a n up val) (s : sm P h h1) (hp : ∀ q j, a ≤ q → q ≤ a + 5 → P q j) : PC h1 a n up val := by
  obtain ⟨o, hd, el, nn, hv⟩ := c
  refine ⟨⟨(s a 0 (hp _ _ (by omega) (by omega))).1.trans o.1, fun x hx => (s _ x (hp _ _ (by omega) (by omega))).1.trans (o.2 x hx)⟩, fun t ht => (s _ t (hp _ _ (by omega) (by omega))).1.trans (hd t ht), ⟨(s a 3 (hp _ _ (by omega) (by omega))).1.trans el.1, fun i hi => (s _ i (hp _ _ (by omega) (by omega))).1.trans (el.2.1 i hi), fun t ht => (s _ t (hp _ _ (by omega) (by omega))).1.trans (el.2.2 t ht)⟩, fun t ht hu => (s _ t (hp _ _ (by omega) (by omega))).1.trans (nn t ht hu), fun v hvv => (s _ v (hp _ _ (by omega) (by omega))).1.trans (hv v hvv)⟩
theorem CT.keep {h h1 : AH} {t : List Nat} {P : Nat → Nat → Prop} (c : CT h t) (s : sm P h h1) (p0 : P A_text 0) (p1 : ∀ j, P (A_text + 1) j) : CT h1 t := ⟨(s _ _ p0).1.trans c.1, fun i hi => (s _ _ (p1 i)).1.trans (c.2 i hi)⟩
theorem CFo.keep {h h1 : AH} {i : Nat} {t : List Nat} {P : Nat → Nat → Prop} (c : CFo h i t) (s : sm P h h1) (p0 : P (aF i) 0) (p1 : ∀ j, P (aF i + 1) j) : CFo h1 i t := ⟨(s _ _ p0).1.trans c.1, fun i hi => (s _ _ (p1 i)).1.trans (c.2 i hi)⟩
theorem CG.keep {h h1 : AH} {t : List Nat} {P : Nat → Nat → Prop} (c : CG h t) (s : sm P h h1) (p0 : P A_x 5) (p1 : ∀ j, P A_gens j) : CG h1 t := ⟨(s _ _ p0).1.trans c.1, fun i hi => (s _ _ (p1 i)).1.trans (c.2 i hi)⟩
theorem CD.keep {h h1 : AH} {f : FT} {P : Nat → Nat → Prop} (c : CD h f) (s : sm P h h1) (p0 : ∀ q j, A_sub ≤ q → q ≤ A_sub + 4 → P q j) : CD h1 f := by
  refine ⟨(s _ _ (p0 _ _ (by omega) (by omega))).1.trans c.1, fun k hk => ?_⟩
  obtain ⟨c1, c2, c3, c4⟩ := c.2 k hk
  exact ⟨(s _ _ (p0 _ _ (by omega) (by omega))).2.trans c1, (s _ _ (p0 _ _ (by omega) (by omega))).1.trans c2, (s _ _ (p0 _ _ (by omega) (by omega))).1.trans c3, (s _ _ (p0 _ _ (by omega) (by omega))).1.trans c4⟩
theorem CR.keep {h h1 : AH} {r : Nat} {w : RwT} {P : Nat → Nat → Prop} (c : CR h r w) (s : sm P h h1) (p0 : ∀ q j, aR r ≤ q → q ≤ aR r + 1 → P q j) : CR h1 r w := by
  match w, c with
  | none, c => exact (s _ _ (p0 _ _ (by omega) (by omega))).1.trans c
  | some (t, n, f), c => exact ⟨(s _ _ (p0 _ _ (by omega) (by omega))).1.trans c.1, (s _ _ (p0 _ _ (by omega) (by omega))).1.trans c.2.1, fun k hk => (s _ _ (p0 _ _ (by omega) (by omega))).1.trans (c.2.2 k hk)⟩
theorem InvC.keep {h h1 : AH} {S : St} (I : InvC h S) (e : Ext h h1) (s : FrC h h1) : InvC h1 S := ⟨I.1.ext e, fun j hj => (I.2.1 j hj).keep s fun q z h1 h2 => (by simp only [aP, aF, aR, A_x, A_posets, A_formulas, A_rows, A_text, A_gens, A_sub, A_dOrd, A_dSig, A_M] at *; omega), I.2.2.1.keep s (by simp only [aP, aF, aR, A_x, A_posets, A_formulas, A_rows, A_text, A_gens, A_sub, A_dOrd, A_dSig, A_M] at *; omega) fun j => (by simp only [aP, aF, aR, A_x, A_posets, A_formulas, A_rows, A_text, A_gens, A_sub, A_dOrd, A_dSig, A_M] at *; omega), fun j hj => (I.2.2.2.1 j hj).keep s (by simp only [aP, aF, aR, A_x, A_posets, A_formulas, A_rows, A_text, A_gens, A_sub, A_dOrd, A_dSig, A_M] at *; omega) fun z => (by simp only [aP, aF, aR, A_x, A_posets, A_formulas, A_rows, A_text, A_gens, A_sub, A_dOrd, A_dSig, A_M] at *; omega), I.2.2.2.2.1.keep s (by simp only [aP, aF, aR, A_x, A_posets, A_formulas, A_rows, A_text, A_gens, A_sub, A_dOrd, A_dSig, A_M] at *; omega) fun j => (by simp only [aP, aF, aR, A_x, A_posets, A_formulas, A_rows, A_text, A_gens, A_sub, A_dOrd, A_dSig, A_M] at *; omega), I.2.2.2.2.2.1.keep s fun q j h1 h2 => (by simp only [aP, aF, aR, A_x, A_posets, A_formulas, A_rows, A_text, A_gens, A_sub, A_dOrd, A_dSig, A_M] at *; omega), fun j hj => (I.2.2.2.2.2.2.1 j hj).keep s fun q z h1 h2 => (by simp only [aP, aF, aR, A_x, A_posets, A_formulas, A_rows, A_text, A_gens, A_sub, A_dOrd, A_dSig, A_M] at *; omega), (s _ _ (by simp only [aP, aF, aR, A_x, A_posets, A_formulas, A_rows, A_text, A_gens, A_sub, A_dOrd, A_dSig, A_M] at *; omega)).1.trans I.2.2.2.2.2.2.2⟩
theorem InvC.atP {h h1 : AH} {S : St} {i : Nat} {p : PT} (hi : i < 4) (I : InvC h S) (e : Ext h h1) (s : sm (fun q _ => 1 ≤ q ∧ q ≤ 72 ∧ ¬ (aP i ≤ q ∧ q ≤ aP i + 5) ∧ q ≠ A_dOrd) h h1) (hp : PC h1 (aP i) p.1 p.2.1 p.2.2) : InvC h1 (setP S i p) := by
  refine ⟨I.1.ext e, fun j hj => ?_, I.2.2.1.keep s (by simp only [aP, aF, aR, A_x, A_posets, A_formulas, A_rows, A_text, A_gens, A_sub, A_dOrd, A_dSig, A_M] at *; omega) fun j => (by simp only [aP, aF, aR, A_x, A_posets, A_formulas, A_rows, A_text, A_gens, A_sub, A_dOrd, A_dSig, A_M] at *; omega), fun j hj => (I.2.2.2.1 j hj).keep s (by simp only [aP, aF, aR, A_x, A_posets, A_formulas, A_rows, A_text, A_gens, A_sub, A_dOrd, A_dSig, A_M] at *; omega) fun z => (by simp only [aP, aF, aR, A_x, A_posets, A_formulas, A_rows, A_text, A_gens, A_sub, A_dOrd, A_dSig, A_M] at *; omega), I.2.2.2.2.1.keep s (by simp only [aP, aF, aR, A_x, A_posets, A_formulas, A_rows, A_text, A_gens, A_sub, A_dOrd, A_dSig, A_M] at *; omega) fun j => (by simp only [aP, aF, aR, A_x, A_posets, A_formulas, A_rows, A_text, A_gens, A_sub, A_dOrd, A_dSig, A_M] at *; omega), I.2.2.2.2.2.1.keep s fun q j h1 h2 => (by simp only [aP, aF, aR, A_x, A_posets, A_formulas, A_rows, A_text, A_gens, A_sub, A_dOrd, A_dSig, A_M] at *; omega), fun j hj => (I.2.2.2.2.2.2.1 j hj).keep s fun q z h1 h2 => (by simp only [aP, aF, aR, A_x, A_posets, A_formulas, A_rows, A_text, A_gens, A_sub, A_dOrd, A_dSig, A_M] at *; omega), (s _ _ (by simp only [aP, aF, aR, A_x, A_posets, A_formulas, A_rows, A_text, A_gens, A_sub, A_dOrd, A_dSig, A_M] at *; omega)).1.trans I.2.2.2.2.2.2.2⟩
  by_cases hji : j = i
  · subst hji
    show PC h1 (aP j) (if j = j then p else sP S j).1 (if j = j then p else sP S j).2.1 (if j = j then p else sP S j).2.2
    rw [if_pos rfl]
    exact hp
  · show PC h1 (aP j) (if j = i then p else sP S j).1 (if j = i then p else sP S j).2.1 (if j = i then p else sP S j).2.2
    rw [if_neg hji]
    exact (I.2.1 j hj).keep s fun q z h1 h2 => (by simp only [aP, aF, aR, A_x, A_posets, A_formulas, A_rows, A_text, A_gens, A_sub, A_dOrd, A_dSig, A_M] at *; omega)
/-- the cells of the reference that last -/
def PMx (a j : Nat) : Prop := (73 < a ∧ a ≤ 95 ∧ a ≠ M_elements ∧ a ≠ M_numberOf ∧ a ≠ M_made ∧ a ≠ M_pending ∧ a ≠ M_given ∧ a ≠ M_stack ∧ a ≠ M_map ∧ a ≠ M_moved ∧ ¬ (a = M_size ∧ j = 4) ∧ ¬ (a = M_up ∧ 24 ≤ j)) ∨ (a = 73 ∧ (j = 7 ∨ j = 25 ∨ j = 26 ∨ j = 32))
theorem MO.kx {h h1 : AH} {i n : Nat} {up : Nat → Nat} {P : Nat → Nat → Prop} (o : MO h i n up) (hi : i < 4) (h6 : n ≤ 6) (s : sm P h h1) (hp : ∀ a j, PMx a j → P a j) : MO h1 i n up := by
  refine o.keep s (hp _ _ (Or.inl ?_)) fun x hx => hp _ _ (Or.inl ?_)
  · simp only [M_size, M_elements, M_numberOf, M_made, M_pending, M_given, M_stack, M_map, M_moved, M_up]; omega
  · simp only [M_size, M_elements, M_numberOf, M_made, M_pending, M_given, M_stack, M_map, M_moved, M_up]; omega
theorem PMx.arr {a j : Nat} (h : 73 < a ∧ a ≤ 95 ∧ a ≠ 74 ∧ a ≠ 75 ∧ a ≠ M_elements ∧ a ≠ M_numberOf ∧ a ≠ M_made ∧ a ≠ M_pending ∧ a ≠ M_given ∧ a ≠ M_stack ∧ a ≠ M_map ∧ a ≠ M_moved) : PMx a j := by
  simp only [PMx, M_size, M_elements, M_numberOf, M_made, M_pending, M_given, M_stack, M_map, M_moved, M_up] at *
  omega
theorem InvM.keep {h h1 : AH} {S : St} (W : WS S) (I : InvM h S) (e : Ext h h1) (s : sm PMx h h1) : InvM h1 S := by
  have v : ∀ j, PMx M_valued j := fun j => PMx.arr (by decide)
  have t : ∀ j, PMx M_text j := fun j => PMx.arr (by decide)
  have f1 : ∀ j, PMx M_formulaSizes j := fun j => PMx.arr (by decide)
  have f2 : ∀ j, PMx M_formula j := fun j => PMx.arr (by decide)
  have g1 : ∀ j, PMx M_generators j := fun j => PMx.arr (by decide)
  have d1 : ∀ j, PMx M_cost j := fun j => PMx.arr (by decide)
  have d2 : ∀ j, PMx M_operator j := fun j => PMx.arr (by decide)
  have d3 : ∀ j, PMx M_left j := fun j => PMx.arr (by decide)
  have d4 : ∀ j, PMx M_right j := fun j => PMx.arr (by decide)
  have r1 : ∀ j, PMx M_rowType j := fun j => PMx.arr (by decide)
  have r2 : ∀ j, PMx M_rowLength j := fun j => PMx.arr (by decide)
  have r3 : ∀ j, PMx M_rows j := fun j => PMx.arr (by decide)
  obtain ⟨i1, i2, i3, i4, i5, i6, i7, i8⟩ := I
  refine ⟨i1.ext e, fun j hj => ⟨(i2 j hj).1.kx hj (W.1 j hj).1.1.2 s fun _ _ q => q, fun u hu => (s _ _ (v _)).1.trans ((i2 j hj).2 u hu)⟩, ⟨(s _ _ (Or.inr ⟨rfl, Or.inl rfl⟩)).1.trans i3.1, fun k hk => (s _ _ (t _)).1.trans (i3.2 k hk)⟩, fun j hj => ⟨(s _ _ (f1 _)).1.trans (i4 j hj).1, fun k hk => (s _ _ (f2 _)).1.trans ((i4 j hj).2 k hk)⟩, ⟨(s _ _ (Or.inr ⟨rfl, Or.inr (Or.inl rfl)⟩)).1.trans i5.1, fun k hk => (s _ _ (g1 _)).1.trans (i5.2 k hk)⟩, ⟨(s _ _ (Or.inr ⟨rfl, Or.inr (Or.inr (Or.inl rfl))⟩)).1.trans i6.1, fun k hk => ?_⟩, fun r hr => ?_, (s _ _ (Or.inr ⟨rfl, Or.inr (Or.inr (Or.inr rfl))⟩)).1.trans i8⟩
  · obtain ⟨c1, c2, c3, c4⟩ := i6.2 k hk
    exact ⟨(s _ _ (d1 _)).2.trans c1, (s _ _ (d2 _)).1.trans c2, (s _ _ (d3 _)).1.trans c3, (s _ _ (d4 _)).1.trans c4⟩
  · have c := i7 r hr
    revert c
    generalize sR S r = w
    intro c
    match w, c with
    | none, c => exact (s _ _ (r1 _)).1.trans c
    | some (t, n, f), c => exact ⟨(s _ _ (r1 _)).1.trans c.1, (s _ _ (r2 _)).1.trans c.2.1, fun k hk => (s _ _ (r3 _)).1.trans (c.2.2 k hk)⟩
theorem PF.mx {a j : Nat} (h : PMx a j) : PF a j := by
  simp only [PMx, PF, A_M, M_size, M_elements, M_numberOf, M_made, M_pending, M_given, M_stack, M_map, M_moved, M_up] at *
  omega

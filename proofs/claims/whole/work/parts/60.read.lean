/-! the readers of the text, without machine: characters, waiting signs (top first), signs put out -/
def popp (p : Nat → Bool) : List Nat → List Nat → List Nat × List Nat
  | [], D => ([], D)
  | x :: W, D => if p x = true then popp p W (D ++ [x]) else (x :: W, D)
def leafN (c : Nat) : Option Nat := if c = 48 then some 3 else if c = 49 then some 4 else if c = 112 then some 0 else if c = 113 then some 1 else if c = 114 then some 2 else none
abbrev Rdr : Type := Nat × Nat × (Nat → Bool) × (Nat → Bool) × (Nat → Nat → Bool) × (Nat → Option Nat)
abbrev Rdr.pr (G : Rdr) : Nat := G.1
abbrev Rdr.nt (G : Rdr) : Nat := G.2.1
abbrev Rdr.pn (G : Rdr) : Nat → Bool := G.2.2.1
abbrev Rdr.pc (G : Rdr) : Nat → Bool := G.2.2.2.1
abbrev Rdr.po (G : Rdr) : Nat → Nat → Bool := G.2.2.2.2.1
abbrev Rdr.oc (G : Rdr) : Nat → Option Nat := G.2.2.2.2.2
def rd (G : Rdr) : List Nat → Nat → Bool → List Nat → List Nat → Sum Nat (List Nat)
  | [], i, true, _, _ => .inl i
  | [], i, false, W, D => if W.count G.pr = 0 then .inr (popp G.pc W D).2 else .inl i
  | c :: t, i, true, W, D => match leafN c with
    | some a => rd G t (i + 1) false (popp G.pn W (D ++ [a])).1 (popp G.pn W (D ++ [a])).2
    | none => if (c = 40 ∨ c = 126) ∧ W.count G.pr + W.count G.nt < 8 then rd G t (i + 1) true ((if c = 40 then G.pr else G.nt) :: W) D else .inl i
  | c :: t, i, false, W, D => if c = 41 then (if W.count G.pr = 0 then .inl i else rd G t (i + 1) false (popp G.pn (popp G.pc W D).1.tail (popp G.pc W D).2).1 (popp G.pn (popp G.pc W D).1.tail (popp G.pc W D).2).2) else match G.oc c with
    | some k => rd G t (i + 1) true (k :: (popp (G.po k) W D).1) (popp (G.po k) W D).2
    | none => .inl i
def opC (c : Nat) : Option Nat := if c = 38 then some 7 else if c = 62 then some 5 else if c = 124 then some 6 else none
def opM (c : Nat) : Option Nat := if c = 38 then some 6 else if c = 124 then some 7 else if c = 62 then some 8 else none
def rC : Rdr := ⟨0, 8, fun k => decide (k = 8), fun k => decide (0 < k), fun j k => decide (j < k), opC⟩
def rM : Rdr := ⟨9, 5, fun k => decide (k ≤ 5), fun k => decide (k ≤ 8), fun j k => decide (k ≤ if j = 8 then 7 else j), opM⟩
theorem popp_len {p : Nat → Bool} : ∀ (W D : List Nat), (popp p W D).2.length + (popp p W D).1.length = D.length + W.length
  | [], D => rfl
  | x :: W, D => by
    unfold popp
    by_cases c : p x = true
    · rw [if_pos c, popp_len W (D ++ [x]), List.length_append]
      show D.length + 1 + W.length = D.length + (W.length + 1)
      omega
    · rw [if_neg c]
def cm (k : Nat) : Nat := if k = 0 then 9 else 13 - k
def tpc : List Nat → Nat
  | [] => 0
  | k :: _ => k
def wfW : List Nat → Prop
  | [] => True
  | k :: W => (k = 0 ∨ (5 ≤ k ∧ k ≤ 8)) ∧ (5 ≤ k → k ≤ 7 → tpc W ≤ k) ∧ wfW W
theorem wfW_pop {p : Nat → Bool} : ∀ (W D : List Nat), wfW W → wfW (popp p W D).1
  | [], D, _ => trivial
  | x :: W, D, w => by
    unfold popp
    by_cases c : p x = true
    · rw [if_pos c]; exact wfW_pop W _ w.2.2
    · rw [if_neg c]; exact w
theorem tp_pop {p : Nat → Bool} : ∀ (W D : List Nat), (popp p W D).1 = [] ∨ p (tpc (popp p W D).1) = false
  | [], D => Or.inl rfl
  | x :: W, D => by
    unfold popp
    by_cases c : p x = true
    · rw [if_pos c]; exact tp_pop W _
    · rw [if_neg c]; exact Or.inr (show p x = false by simpa using c)
section VAL
variable {I : Nat → Nat → Nat} {T : Nat} {env : Nat → Nat}
abbrev Fr : Type := List (Nat × Nat)
def cds (F : Fr) : List Nat := F.map Prod.fst
def cdm (F : Fr) : List Nat := F.map fun e => cm e.1
def vls : Fr → List Nat
  | [] => []
  | (k, a) :: F => if k = 0 ∨ k = 8 then vls F else a :: vls F
def ap (I : Nat → Nat → Nat) (k a x : Nat) : Nat := if k = 8 then I x 0 else if k = 7 then a &&& x else if k = 6 then a ||| x else I a x
def vpop (I : Nat → Nat → Nat) (p : Nat → Bool) : Fr → Nat → Fr × Nat
  | [], x => ([], x)
  | (k, a) :: F, x => if p k = true then vpop I p F (ap I k a x) else ((k, a) :: F, x)
def mrg (I : Nat → Nat → Nat) (k a : Nat) : Fr → Fr
  | (k2, b) :: F => if k = k2 ∧ (k = 6 ∨ k = 7) then (k, ap I k b a) :: F else (k, a) :: (k2, b) :: F
  | [] => [(k, a)]
def col (I : Nat → Nat → Nat) : Fr → Fr
  | [] => []
  | (k, a) :: F => mrg I k a (col I F)
theorem mrg_cons {k a k2 b : Nat} {F : Fr} : mrg I k a ((k2, b) :: F) = if k = k2 ∧ (k = 6 ∨ k = 7) then (k, ap I k b a) :: F else (k, a) :: (k2, b) :: F := rfl
theorem ap_assoc {k a b x : Nat} (h : k = 6 ∨ k = 7) : ap I k (ap I k b a) x = ap I k b (ap I k a x) := by
  rcases h with rfl | rfl
  · exact Nat.or_assoc b a x
  · exact Nat.and_assoc b a x
theorem vpop_mrg {p : Nat → Bool} {k a : Nat} {F : Fr} {x : Nat} (hp : p k = true) : vpop I p (mrg I k a F) x = vpop I p F (ap I k a x) := by
  match F with
  | [] => show (if p k = true then _ else _) = _; rw [if_pos hp]
  | (k2, b) :: F =>
    rw [mrg_cons]
    by_cases c : k = k2 ∧ (k = 6 ∨ k = 7)
    · rw [if_pos c]
      obtain ⟨rfl, c2⟩ := c
      show (if p k = true then vpop I p F (ap I k (ap I k b a) x) else _) = (if p k = true then vpop I p F (ap I k b (ap I k a x)) else _)
      rw [if_pos hp, if_pos hp, ap_assoc c2]
    · rw [if_neg c]
      show (if p k = true then vpop I p ((k2, b) :: F) (ap I k a x) else _) = _
      rw [if_pos hp]
theorem vpop_mrg' {p : Nat → Bool} {k a : Nat} {F : Fr} {x : Nat} (hp : ¬ p k = true) : vpop I p (mrg I k a F) x = (mrg I k a F, x) := by
  match F with
  | [] => show (if p k = true then _ else _) = _; rw [if_neg hp]; rfl
  | (k2, b) :: F =>
    rw [mrg_cons]
    by_cases c : k = k2 ∧ (k = 6 ∨ k = 7)
    · rw [if_pos c]
      show (if p k = true then _ else _) = _
      rw [if_neg hp]
    · rw [if_neg c]
      show (if p k = true then _ else _) = _
      rw [if_neg hp]
theorem vpop_col {p : Nat → Bool} : ∀ (F : Fr) (x : Nat), vpop I p (col I F) x = (col I (vpop I p F x).1, (vpop I p F x).2)
  | [], x => rfl
  | (k, a) :: F, x => by
    show vpop I p (mrg I k a (col I F)) x = (col I (if p k = true then vpop I p F (ap I k a x) else ((k, a) :: F, x)).1, (if p k = true then vpop I p F (ap I k a x) else ((k, a) :: F, x)).2)
    by_cases c : p k = true
    · rw [if_pos c, vpop_mrg c]
      exact vpop_col F _
    · rw [if_neg c, vpop_mrg' c]
      rfl
/-- one more threshold: what is above first, then what is equal -/
theorem vpop_two {p q : Nat → Bool} (hpq : ∀ k, p k = true → q k = true) : ∀ (F : Fr) (x : Nat), vpop I q F x = vpop I q (vpop I p F x).1 (vpop I p F x).2
  | [], x => rfl
  | (k, a) :: F, x => by
    show _ = vpop I q (if p k = true then vpop I p F (ap I k a x) else ((k, a) :: F, x)).1 (if p k = true then vpop I p F (ap I k a x) else ((k, a) :: F, x)).2
    by_cases c : p k = true
    · rw [if_pos c]
      show (if q k = true then vpop I q F (ap I k a x) else _) = _
      rw [if_pos (hpq k c)]
      exact vpop_two hpq F _
    · rw [if_neg c]
theorem tp_mrg {k a : Nat} {F : Fr} : tpc (cds (mrg I k a F)) = k := by
  match F with
  | [] => rfl
  | (k2, b) :: F =>
    rw [mrg_cons]
    by_cases c : k = k2 ∧ (k = 6 ∨ k = 7)
    · rw [if_pos c]; rfl
    · rw [if_neg c]; rfl
theorem tp_col : ∀ (F : Fr), tpc (cds (col I F)) = tpc (cds F)
  | [] => rfl
  | (k, a) :: F => tp_mrg
theorem col_low : ∀ (F : Fr) {k b : Nat} {F2 : Fr}, wfW (cds F) → (k = 6 ∨ k = 7) → col I F = (k, b) :: F2 → tpc (cds F2) < k
  | [], k, b, F2, _, _, e => by cases e
  | (k0, a) :: F, k, b, F2, w, hk, e => by
    have e : mrg I k0 a (col I F) = (k, b) :: F2 := e
    have w1 : 5 ≤ k0 → k0 ≤ 7 → tpc (cds F) ≤ k0 := w.2.1
    have w2 : wfW (cds F) := w.2.2
    have t := tp_col (I := I) F
    cases e3 : col I F with
    | nil =>
      rw [e3] at e
      have e : [(k0, a)] = (k, b) :: F2 := e
      injection e with e1 e2
      rw [← e2]
      show 0 < k
      omega
    | cons f F3 =>
      obtain ⟨k2, b2⟩ := f
      rw [e3] at e t
      have t : k2 = tpc (cds F) := t
      have e : (if k0 = k2 ∧ (k0 = 6 ∨ k0 = 7) then (k0, ap I k0 b2 a) :: F3 else (k0, a) :: (k2, b2) :: F3) = (k, b) :: F2 := e
      by_cases c : k0 = k2 ∧ (k0 = 6 ∨ k0 = 7)
      · rw [if_pos c] at e
        injection e with e1 e2
        injection e1 with e4 e5
        have := col_low F w2 c.2 (by rw [e3, c.1])
        rw [← e2, ← e4]
        exact this
      · rw [if_neg c] at e
        injection e with e1 e2
        injection e1 with e4 e5
        rw [← e2]
        show k2 < k
        omega
theorem cds_vpop {p : Nat → Bool} : ∀ (F : Fr) (x : Nat) (D : List Nat), (popp p (cds F) D).1 = cds (vpop I p F x).1
  | [], x, D => rfl
  | (k, a) :: F, x, D => by
    show (if p k = true then popp p (cds F) (D ++ [k]) else (k :: cds F, D)).1 = cds (if p k = true then vpop I p F (ap I k a x) else ((k, a) :: F, x)).1
    by_cases c : p k = true
    · rw [if_pos c, if_pos c]; exact cds_vpop F _ _
    · rw [if_neg c, if_neg c]; rfl
/-- a sign more, put at the binary sign's place -/
theorem col_push {k : Nat} (hk : k = 6 ∨ k = 7) (F : Fr) (x : Nat) (w : wfW (cds F)) : col I ((k, (vpop I (fun j => decide (k < j)) F x).2) :: (vpop I (fun j => decide (k < j)) F x).1) = (k, (vpop I (fun j => decide (k ≤ j)) (col I F) x).2) :: (vpop I (fun j => decide (k ≤ j)) (col I F) x).1 := by
  have e1 := vpop_col (I := I) (p := fun j => decide (k ≤ j)) F x
  have e2 := vpop_two (I := I) (p := fun j => decide (k < j)) (q := fun j => decide (k ≤ j)) (fun j hj => by simp at *; omega) F x
  have w1 : wfW (cds (vpop I (fun j => decide (k < j)) F x).1) := by rw [← cds_vpop F x []]; exact wfW_pop _ _ w
  have t1 : tpc (cds (vpop I (fun j => decide (k < j)) F x).1) ≤ k := by
    rcases tp_pop (p := fun j => decide (k < j)) (cds F) [] with z | z
    · rw [← cds_vpop F x [], z]; exact Nat.zero_le _
    · rw [← cds_vpop F x []]; simpa using z
  rw [e2, ← vpop_col] at e1
  rw [e1]
  revert w1 t1
  generalize vpop I (fun j => decide (k < j)) F x = s
  obtain ⟨F1, x1⟩ := s
  intro w1 t1
  have w1 : wfW (cds F1) := w1
  have t1 : tpc (cds F1) ≤ k := t1
  show mrg I k x1 (col I F1) = (k, (vpop I (fun j => decide (k ≤ j)) (col I F1) x1).2) :: (vpop I (fun j => decide (k ≤ j)) (col I F1) x1).1
  have t := tp_col (I := I) F1
  have cl := fun b F2 => col_low (I := I) F1 (k := k) (b := b) (F2 := F2) w1 hk
  revert t cl
  generalize col I F1 = H
  intro t cl
  match H, t, cl with
  | [], _, _ => rfl
  | (k2, b) :: F2, t, cl =>
    have t : k2 = tpc (cds F1) := t
    show (if k = k2 ∧ (k = 6 ∨ k = 7) then (k, ap I k b x1) :: F2 else (k, x1) :: (k2, b) :: F2) = (k, (if decide (k ≤ k2) = true then vpop I _ F2 (ap I k2 b x1) else ((k2, b) :: F2, x1)).2) :: (if decide (k ≤ k2) = true then vpop I _ F2 (ap I k2 b x1) else ((k2, b) :: F2, x1)).1
    by_cases c : k = k2
    · subst c
      rw [if_pos ⟨rfl, hk⟩, if_pos (by simp)]
      have lw := cl b F2 rfl
      match F2, lw with
      | [], _ => rfl
      | (k3, b3) :: F3, lw =>
        have lw : k3 < k := lw
        show (k, ap I k b x1) :: (k3, b3) :: F3 = (k, (if decide (k ≤ k3) = true then vpop I _ F3 (ap I k3 b3 (ap I k b x1)) else ((k3, b3) :: F3, ap I k b x1)).2) :: (if decide (k ≤ k3) = true then vpop I _ F3 (ap I k3 b3 (ap I k b x1)) else ((k3, b3) :: F3, ap I k b x1)).1
        rw [if_neg (by simp; omega)]
    · rw [if_neg (fun q => c q.1), if_neg (by simp; omega)]
end VAL

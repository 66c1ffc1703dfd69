/-! the readers give the same answer; the state behind parse -/
section RDE
variable {G : Rdr} {t W D : List Nat} {c i a k : Nat}
theorem rd_leaf (e : leafN c = some a) : rd G (c :: t) i true W D = rd G t (i + 1) false (popp G.pn W (D ++ [a])).1 (popp G.pn W (D ++ [a])).2 := by simp only [rd, e]
theorem rd_pre (e : leafN c = none) : rd G (c :: t) i true W D = if (c = 40 ∨ c = 126) ∧ W.count G.pr + W.count G.nt < 8 then rd G t (i + 1) true ((if c = 40 then G.pr else G.nt) :: W) D else .inl i := by simp only [rd, e]
theorem rd_cl0 (e : W.count G.pr = 0) : rd G (41 :: t) i false W D = .inl i := by simp only [rd, e, if_pos]
theorem rd_cl (e : ¬ W.count G.pr = 0) : rd G (41 :: t) i false W D = rd G t (i + 1) false (popp G.pn (popp G.pc W D).1.tail (popp G.pc W D).2).1 (popp G.pn (popp G.pc W D).1.tail (popp G.pc W D).2).2 := by simp only [rd, if_pos, if_neg e]
theorem rd_op (h : c ≠ 41) (e : G.oc c = some k) : rd G (c :: t) i false W D = rd G t (i + 1) true (k :: (popp (G.po k) W D).1) (popp (G.po k) W D).2 := by simp only [rd, if_neg h, e]
theorem rd_bad (h : c ≠ 41) (e : G.oc c = none) : rd G (c :: t) i false W D = .inl i := by simp only [rd, if_neg h, e]
theorem rd_end0 (e : W.count G.pr = 0) : rd G [] i false W D = .inr (popp G.pc W D).2 := by simp only [rd, if_pos e]
theorem rd_end (e : ¬ W.count G.pr = 0) : rd G [] i false W D = .inl i := by simp only [rd, if_neg e]
end RDE
theorem leafN_5 {c a : Nat} (e : leafN c = some a) : a < 5 := by
  unfold leafN at e
  split at e
  · injection e with e; omega
  split at e
  · injection e with e; omega
  split at e
  · injection e with e; omega
  split at e
  · injection e with e; omega
  split at e
  · injection e with e; omega
  cases e
theorem opC_c {c : Nat} : (c = 38 ∧ opC c = some 7 ∧ opM c = some 6) ∨ (c = 62 ∧ opC c = some 5 ∧ opM c = some 8) ∨ (c = 124 ∧ opC c = some 6 ∧ opM c = some 7) ∨ (opC c = none ∧ opM c = none) := by
  by_cases h1 : c = 38
  · subst h1; exact Or.inl ⟨rfl, rfl, rfl⟩
  by_cases h2 : c = 62
  · subst h2; exact Or.inr (Or.inl ⟨rfl, rfl, rfl⟩)
  by_cases h3 : c = 124
  · subst h3; exact Or.inr (Or.inr (Or.inl ⟨rfl, rfl, rfl⟩))
  refine Or.inr (Or.inr (Or.inr ⟨?_, ?_⟩))
  · unfold opC; rw [if_neg h1, if_neg h2, if_neg h3]
  · unfold opM; rw [if_neg h1, if_neg h3, if_neg h2]
theorem cd5 {k : Nat} (h : k = 0 ∨ (5 ≤ k ∧ k ≤ 8)) : k = 0 ∨ k = 5 ∨ k = 6 ∨ k = 7 ∨ k = 8 := by omega
theorem c_pn : ∀ k, k = 0 ∨ (5 ≤ k ∧ k ≤ 8) → rM.pn (cm k) = rC.pn k := fun k hk => by rcases cd5 hk with rfl | rfl | rfl | rfl | rfl <;> rfl
theorem c_pc : ∀ k, k = 0 ∨ (5 ≤ k ∧ k ≤ 8) → rM.pc (cm k) = rC.pc k := fun k hk => by rcases cd5 hk with rfl | rfl | rfl | rfl | rfl <;> rfl
theorem c_p8 : ∀ k, k = 0 ∨ (5 ≤ k ∧ k ≤ 8) → rM.po 8 (cm k) = rC.po 5 k := fun k hk => by rcases cd5 hk with rfl | rfl | rfl | rfl | rfl <;> rfl
theorem c_p7 : ∀ k, k = 0 ∨ (5 ≤ k ∧ k ≤ 8) → rM.po 7 (cm k) = decide (6 ≤ k) := fun k hk => by rcases cd5 hk with rfl | rfl | rfl | rfl | rfl <;> rfl
theorem c_p6 : ∀ k, k = 0 ∨ (5 ≤ k ∧ k ≤ 8) → rM.po 6 (cm k) = decide (7 ≤ k) := fun k hk => by rcases cd5 hk with rfl | rfl | rfl | rfl | rfl <;> rfl
/-- below the open parenthesis -/
theorem pop_pc {W D : List Nat} (w : wfW W) (hc : ¬ W.count 0 = 0) : (popp rC.pc W D).1 = 0 :: (popp rC.pc W D).1.tail := by
  have h1 := popp_cz (p := rC.pc) (z := 0) rfl W D
  have h2 := tp_pop (p := rC.pc) W D
  revert h1 h2
  generalize (popp rC.pc W D).1 = W2
  intro h1 h2
  match W2 with
  | [] => exact absurd h1.symm hc
  | k :: W3 =>
    have h2 : decide (0 < k) = false := h2.resolve_left (by intro z; cases z)
    have : k = 0 := by have := of_decide_eq_false h2; omega
    rw [this]; rfl
theorem pop_pc0 {W D : List Nat} (hc : W.count 0 = 0) : (popp rC.pc W D).1 = [] := by
  have h1 := popp_cz (p := rC.pc) (z := 0) rfl W D
  have h2 := tp_pop (p := rC.pc) W D
  revert h1 h2
  generalize (popp rC.pc W D).1 = W2
  intro h1 h2
  match W2 with
  | [] => rfl
  | k :: W3 =>
    have h2 : decide (0 < k) = false := h2.resolve_left (by intro z; cases z)
    have : k = 0 := by have := of_decide_eq_false h2; omega
    subst this
    rw [List.count_cons, if_pos (by simp)] at h1
    omega
def GOOD (n : Nat) (D E : List Nat) : Prop := D.length = E.length ∧ D.length ≤ n ∧ (∀ v, v < 3 → D.count v = E.count v) ∧ ∀ I T env, ∃ x, ∀ st, runC I T env D st = some (x :: st) ∧ runM I T env E st = some (x :: st)
def BOTH (n : Nat) (r1 r2 : Sum Nat (List Nat)) : Prop := (∃ j, r1 = .inl j ∧ r2 = .inl j ∧ j ≤ n) ∨ ∃ D E, r1 = .inr D ∧ r2 = .inr E ∧ GOOD n D E
theorem sim_rd : ∀ (t : List Nat) (i : Nat) (b : Bool) (W D P E : List Nat), Sim b W D P E → D.length + W.length ≤ i → BOTH (i + t.length) (rd rC t i b W D) (rd rM t i b P E)
  | [], i, true, W, D, P, E, s, hl => Or.inl ⟨i, rfl, rfl, Nat.le_refl _⟩
  | [], i, false, W, D, P, E, s, hl => by
    by_cases c : W.count 0 = 0
    · have s2 := s.pop (p := rM.pc) (q := rC.pc) rfl c_pc
      have z := pop_pc0 (D := D) c
      have ln := popp_len (p := rC.pc) W D
      refine Or.inr ⟨(popp rC.pc W D).2, (popp rM.pc P E).2, rd_end0 c, rd_end0 (s.c9.1.trans c), ?_⟩
      rw [z] at s2 ln
      have ln : (popp rC.pc W D).2.length + 0 = D.length + W.length := ln
      obtain ⟨-, l1, l2, l3⟩ := s2
      have p0 : (popp rM.pc P E).1 = [] := by
        obtain ⟨F, x, h1, h2, -⟩ := l3 (fun _ _ => 0) 0 fun _ => 0
        have : F = [] := List.map_eq_nil_iff.mp h1
        subst this
        exact h2.symm
      rw [p0] at l1
      refine ⟨l1, by show _ ≤ i + 0; omega, l2, fun I T env => ?_⟩
      obtain ⟨F, x, h1, h2, h3⟩ := l3 I T env
      have : F = [] := List.map_eq_nil_iff.mp h1
      subst this
      exact ⟨x, h3⟩
    · exact Or.inl ⟨i, rd_end c, rd_end (fun z => c (s.c9.1.symm.trans z)), Nat.le_refl _⟩
  | c :: t, i, true, W, D, P, E, s, hl => by
    have hn : i + (c :: t).length = i + 1 + t.length := by show i + (t.length + 1) = _; omega
    rw [hn]
    cases e : leafN c with
    | some a =>
      rw [rd_leaf e, rd_leaf e]
      refine sim_rd t (i + 1) false _ _ _ _ ((s.leaf (leafN_5 e)).pop rfl c_pn) ?_
      rw [popp_len, List.length_append]
      show D.length + 1 + W.length ≤ i + 1
      omega
    | none =>
      rw [rd_pre e, rd_pre e]
      have c9 := s.c9
      show BOTH _ (if (c = 40 ∨ c = 126) ∧ W.count 0 + W.count 8 < 8 then rd rC t (i + 1) true ((if c = 40 then 0 else 8) :: W) D else .inl i) (if (c = 40 ∨ c = 126) ∧ P.count 9 + P.count 5 < 8 then rd rM t (i + 1) true ((if c = 40 then 9 else 5) :: P) E else .inl i)
      rw [c9.1, c9.2]
      by_cases q : (c = 40 ∨ c = 126) ∧ W.count 0 + W.count 8 < 8
      · rw [if_pos q, if_pos q]
        have hl2 : ∀ k, D.length + (k :: W).length ≤ i + 1 := fun k => by show D.length + (W.length + 1) ≤ i + 1; omega
        by_cases q2 : c = 40
        · rw [if_pos q2, if_pos q2]
          exact sim_rd t (i + 1) true _ _ _ _ (s.push (k := 0) (Or.inl rfl)) (hl2 _)
        · rw [if_neg q2, if_neg q2]
          exact sim_rd t (i + 1) true _ _ _ _ (s.push (k := 8) (Or.inr rfl)) (hl2 _)
      · rw [if_neg q, if_neg q]
        exact Or.inl ⟨i, rfl, rfl, by omega⟩
  | c :: t, i, false, W, D, P, E, s, hl => by
    have hn : i + (c :: t).length = i + 1 + t.length := by show i + (t.length + 1) = _; omega
    rw [hn]
    have c9 := s.c9
    by_cases h41 : c = 41
    · subst h41
      by_cases q : W.count 0 = 0
      · rw [rd_cl0 (G := rC) q, rd_cl0 (G := rM) (c9.1.trans q)]
        exact Or.inl ⟨i, rfl, rfl, by omega⟩
      · rw [rd_cl (G := rC) q, rd_cl (G := rM) (fun z => q (c9.1.symm.trans z))]
        have s2 := s.pop (p := rM.pc) (q := rC.pc) rfl c_pc
        have ln := popp_len (p := rC.pc) W D
        have z := pop_pc (D := D) s.1 q
        rw [z] at s2
        refine sim_rd t (i + 1) false _ _ _ _ (s2.tail.pop rfl c_pn) ?_
        rw [popp_len]
        rw [z] at ln
        have ln : (popp rC.pc W D).2.length + ((popp rC.pc W D).1.tail.length + 1) = D.length + W.length := ln
        omega
    · have go : ∀ k k2, opC c = some k → opM c = some k2 → Sim true (k :: (popp (rC.po k) W D).1) (popp (rC.po k) W D).2 (k2 :: (popp (rM.po k2) P E).1) (popp (rM.po k2) P E).2 → BOTH (i + 1 + t.length) (rd rC (c :: t) i false W D) (rd rM (c :: t) i false P E) := fun k k2 e1 e2 s2 => by
        rw [rd_op (G := rC) h41 e1, rd_op (G := rM) h41 e2]
        refine sim_rd t (i + 1) true _ _ _ _ s2 ?_
        have ln := popp_len (p := rC.po k) W D
        show _ + (_ + 1) ≤ _
        omega
      rcases opC_c (c := c) with ⟨-, e1, e2⟩ | ⟨-, e1, e2⟩ | ⟨-, e1, e2⟩ | ⟨e1, e2⟩
      · exact go 7 6 e1 e2 (s.op67 (k := 7) (Or.inr rfl) c_p6)
      · refine go 5 8 e1 e2 (Sim.op5 (s.pop rfl c_p8) ?_)
        rcases tp_pop (p := rC.po 5) W D with z | z
        · rw [z]; exact Nat.zero_le _
        · have := of_decide_eq_false z
          omega
      · exact go 6 7 e1 e2 (s.op67 (k := 6) (Or.inl rfl) c_p7)
      · rw [rd_bad (G := rC) h41 e1, rd_bad (G := rM) h41 e2]
        exact Or.inl ⟨i, rfl, rfl, by omega⟩
theorem sim_all (t : List Nat) : BOTH t.length (rd rC t 0 true [] []) (rd rM t 0 true [] []) := by
  have := sim_rd t 0 true [] [] [] [] ⟨trivial, rfl, fun _ _ => rfl, fun I T env => ⟨[], 0, rfl, rfl, fun st => ⟨rfl, rfl⟩⟩⟩ (Nat.le_refl _)
  rw [Nat.zero_add] at this
  exact this
def oPar2 (S : St) (i : Nat) : Int32 × St := match rd rC (sT S) 0 true [] [], rd rM (sT S) 0 true [] [] with
  | .inr D, .inr E => (nI D.length, setF (setT S []) i (D, E))
  | .inl j, _ => (cI (.negSucc 99) - nI j, setT S [])
  | _, _ => (m1, S)
def oPar (S : St) (v : Int32) : Int32 × St := match ix v 6 with
  | none => (m1, setT S [])
  | some i => oPar2 S i
theorem oPar_n {S : St} {v : Int32} (e : ix v 6 = none) : oPar S v = (m1, setT S []) := by unfold oPar; rw [e]
theorem oPar_s {S : St} {v : Int32} {i : Nat} (e : ix v 6 = some i) : oPar S v = oPar2 S i := by unfold oPar; rw [e]
theorem oPar2_e {S : St} {i j : Nat} (e : rd rC (sT S) 0 true [] [] = .inl j) : oPar2 S i = (cI (.negSucc 99) - nI j, setT S []) := by unfold oPar2; rw [e]
theorem oPar2_s {S : St} {i : Nat} {D E : List Nat} (e : rd rC (sT S) 0 true [] [] = .inr D) (e2 : rd rM (sT S) 0 true [] [] = .inr E) : oPar2 S i = (nI D.length, setF (setT S []) i (D, E)) := by unfold oPar2; rw [e, e2]
theorem WS.par {S : St} {v : Int32} (W : WS S) : WS (oPar S v).2 := by
  cases e : ix v 6 with
  | none => rw [oPar_n e]; exact W.clr
  | some i =>
    rw [oPar_s e]
    rcases sim_all (sT S) with ⟨j, e1, e2, -⟩ | ⟨D, E, e1, e2, gd⟩
    · rw [oPar2_e e1]; exact W.clr
    · rw [oPar2_s e1 e2]
      have := W.2.1.1
      have := gd.2.1
      exact W.clr.atF ⟨gd.1, by show D.length ≤ 60; omega, gd.2.2.1, fun _ => gd.2.2.2⟩

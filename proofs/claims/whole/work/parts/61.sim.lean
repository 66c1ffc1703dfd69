/-! both readers of the text go together -/
section SIMV
variable {I : Nat → Nat → Nat} {T : Nat} {env : Nat → Nat}
theorem runC_pop {p : Nat → Bool} (h0 : p 0 = false) : ∀ (F : Fr) (x : Nat) (D : List Nat), wfW (cds F) → (∀ st, runC I T env D st = some (x :: (vls F ++ st))) → ∀ st, runC I T env (popp p (cds F) D).2 st = some ((vpop I p F x).2 :: (vls (vpop I p F x).1 ++ st))
  | [], x, D, _, hr => hr
  | (k, a) :: F, x, D, w, hr => by
    show ∀ st, runC I T env (if p k = true then popp p (cds F) (D ++ [k]) else (k :: cds F, D)).2 st = some ((if p k = true then vpop I p F (ap I k a x) else ((k, a) :: F, x)).2 :: (vls (if p k = true then vpop I p F (ap I k a x) else ((k, a) :: F, x)).1 ++ st))
    by_cases c : p k = true
    · rw [if_pos c, if_pos c]
      refine runC_pop h0 F _ _ w.2.2 fun st => ?_
      have hk : k = 0 ∨ (5 ≤ k ∧ k ≤ 8) := w.1
      have h1 : k ≠ 0 := fun z => by rw [z, h0] at c; cases c
      rw [runC_app, hr]
      have hk : k = 5 ∨ k = 6 ∨ k = 7 ∨ k = 8 := by omega
      rcases hk with rfl | rfl | rfl | rfl <;> rfl
    · rw [if_neg c, if_neg c]; exact hr
theorem runM_pop {p q : Nat → Bool} (h0 : q 0 = false) (hpq : ∀ k, k = 0 ∨ (5 ≤ k ∧ k ≤ 8) → p (cm k) = q k) : ∀ (F : Fr) (x : Nat) (D : List Nat), (∀ e, e ∈ cds F → e = 0 ∨ (5 ≤ e ∧ e ≤ 8)) → (∀ st, runM I T env D st = some (x :: (vls F ++ st))) → (popp p (cdm F) D).1 = cdm (vpop I q F x).1 ∧ ∀ st, runM I T env (popp p (cdm F) D).2 st = some ((vpop I q F x).2 :: (vls (vpop I q F x).1 ++ st))
  | [], x, D, _, hr => ⟨rfl, hr⟩
  | (k, a) :: F, x, D, w, hr => by
    have hk : k = 0 ∨ (5 ≤ k ∧ k ≤ 8) := w k (by simp [cds])
    have e := hpq k hk
    show (if p (cm k) = true then popp p (cdm F) (D ++ [cm k]) else (cm k :: cdm F, D)).1 = cdm (if q k = true then vpop I q F (ap I k a x) else ((k, a) :: F, x)).1 ∧ ∀ st, runM I T env (if p (cm k) = true then popp p (cdm F) (D ++ [cm k]) else (cm k :: cdm F, D)).2 st = some ((if q k = true then vpop I q F (ap I k a x) else ((k, a) :: F, x)).2 :: (vls (if q k = true then vpop I q F (ap I k a x) else ((k, a) :: F, x)).1 ++ st))
    rw [e]
    by_cases c : q k = true
    · rw [if_pos c, if_pos c]
      refine runM_pop h0 hpq F _ _ (fun e he => w e (by simp [cds] at *; exact Or.inr he)) fun st => ?_
      have h1 : k ≠ 0 := fun z => by rw [z, h0] at c; cases c
      rw [runM_app, hr]
      have hk : k = 5 ∨ k = 6 ∨ k = 7 ∨ k = 8 := by omega
      rcases hk with rfl | rfl | rfl | rfl <;> rfl
    · rw [if_neg c, if_neg c]; exact ⟨rfl, hr⟩
theorem mrg_no {k a : Nat} {F : Fr} (h : ¬ (k = 6 ∨ k = 7)) : mrg I k a F = (k, a) :: F := by
  match F with
  | [] => rfl
  | (k2, b) :: F => rw [mrg_cons, if_neg (fun q => h q.2)]
theorem wfW_mem : ∀ {W : List Nat}, wfW W → ∀ e, e ∈ W → e = 0 ∨ (5 ≤ e ∧ e ≤ 8)
  | [], _, e, he => by cases he
  | k :: W, w, e, he => by
    rcases List.mem_cons.mp he with z | z
    · rw [z]; exact w.1
    · exact wfW_mem w.2.2 e z
theorem mrg_mem {k a : Nat} {F : Fr} : ∀ e, e ∈ cds (mrg I k a F) → e = k ∨ e ∈ cds F := by
  match F with
  | [] => intro e he; exact Or.inl (by simpa [cds, mrg] using he)
  | (k2, b) :: F =>
    rw [mrg_cons]
    by_cases c : k = k2 ∧ (k = 6 ∨ k = 7)
    · rw [if_pos c]
      intro e he
      have he : e ∈ k :: cds F := he
      rcases List.mem_cons.mp he with z | z
      · exact Or.inl z
      · exact Or.inr (List.mem_cons_of_mem _ z)
    · rw [if_neg c]
      intro e he
      have he : e ∈ k :: cds ((k2, b) :: F) := he
      exact List.mem_cons.mp he
theorem col_mem : ∀ {F : Fr}, wfW (cds F) → ∀ e, e ∈ cds (col I F) → e = 0 ∨ (5 ≤ e ∧ e ≤ 8)
  | [], _, e, he => by cases he
  | (k, a) :: F, w, e, he => by
    rcases mrg_mem e he with z | z
    · rw [z]; exact w.1
    · exact col_mem w.2.2 e z
theorem cnt_mrg {k a z : Nat} {F : Fr} (hz : z ≠ 6) (hz2 : z ≠ 7) : (cdm (mrg I k a F)).count z = (cdm F).count z + (if cm k = z then 1 else 0) := by
  have key : (cm k :: cdm F).count z = (cdm F).count z + (if cm k = z then 1 else 0) := by rw [List.count_cons]; simp
  match F with
  | [] => exact key
  | (k2, b) :: F =>
    rw [mrg_cons]
    by_cases c : k = k2 ∧ (k = 6 ∨ k = 7)
    · rw [if_pos c]
      obtain ⟨rfl, c⟩ := c
      show (cm k :: cdm F).count z = (cm k :: cdm F).count z + _
      rw [if_neg (by rcases c with rfl | rfl <;> (simp [cm]; omega)), Nat.add_zero]
    · rw [if_neg c]
      exact key
theorem cnt_col : ∀ (F : Fr), wfW (cds F) → (cdm (col I F)).count 9 = (cds F).count 0 ∧ (cdm (col I F)).count 5 = (cds F).count 8
  | [], _ => ⟨rfl, rfl⟩
  | (k, a) :: F, w => by
    have ih := cnt_col F w.2.2
    have hk : k = 0 ∨ (5 ≤ k ∧ k ≤ 8) := w.1
    show (cdm (mrg I k a (col I F))).count 9 = (k :: cds F).count 0 ∧ (cdm (mrg I k a (col I F))).count 5 = (k :: cds F).count 8
    rw [cnt_mrg (by decide) (by decide), cnt_mrg (by decide) (by decide), ih.1, ih.2, List.count_cons, List.count_cons]
    have hk : k = 0 ∨ k = 5 ∨ k = 6 ∨ k = 7 ∨ k = 8 := by omega
    rcases hk with rfl | rfl | rfl | rfl | rfl <;> exact ⟨rfl, rfl⟩
end SIMV
theorem popp_count {p : Nat → Bool} {v : Nat} : ∀ (W D : List Nat), (∀ x, x ∈ W → p x = true → x ≠ v) → (popp p W D).2.count v = D.count v
  | [], D, _ => rfl
  | x :: W, D, hx => by
    unfold popp
    by_cases c : p x = true
    · rw [if_pos c, popp_count W _ fun y hy => hx y (List.mem_cons_of_mem _ hy), List.count_append]
      have : [x].count v = 0 := by rw [List.count_cons, if_neg (by simp; exact hx x (by simp) c)]; rfl
      omega
    · rw [if_neg c]
theorem popp_cz {p : Nat → Bool} {z : Nat} (hz : p z = false) : ∀ (W D : List Nat), (popp p W D).1.count z = W.count z
  | [], D => rfl
  | x :: W, D => by
    unfold popp
    by_cases c : p x = true
    · rw [if_pos c, popp_cz hz W _, List.count_cons, if_neg (by simp; exact fun e => by rw [e, hz] at c; cases c)]; rfl
    · rw [if_neg c]
def hdx (b : Bool) (x : Nat) (l : List Nat) : List Nat := if b = true then l else x :: l
def Sim (b : Bool) (W D P E : List Nat) : Prop := wfW W ∧ D.length + W.length = E.length + P.length ∧ (∀ v, v < 3 → D.count v = E.count v) ∧ ∀ I T env, ∃ F x, cds F = W ∧ cdm (col I F) = P ∧ ∀ st, runC I T env D st = some (hdx b x (vls F ++ st)) ∧ runM I T env E st = some (hdx b x (vls (col I F) ++ st))
section SIM
variable {W D P E : List Nat} {b : Bool}
theorem Sim.c9 (s : Sim b W D P E) : P.count 9 = W.count 0 ∧ P.count 5 = W.count 8 := by
  obtain ⟨F, x, h1, h2, -⟩ := s.2.2.2 (fun _ _ => 0) 0 fun _ => 0
  rw [← h1, ← h2]
  exact cnt_col F (by rw [h1]; exact s.1)
theorem Sim.mem (s : Sim b W D P E) : ∀ e, e ∈ P → 5 ≤ e := by
  obtain ⟨F, x, h1, h2, -⟩ := s.2.2.2 (fun _ _ => 0) 0 fun _ => 0
  intro e he
  rw [← h2] at he
  obtain ⟨f, hf, rfl⟩ := List.mem_map.mp he
  have := col_mem (I := fun _ _ => 0) (F := F) (by rw [h1]; exact s.1) f.1 (List.mem_map.mpr ⟨f, hf, rfl⟩)
  unfold cm
  split <;> omega
theorem Sim.pop {p q : Nat → Bool} (h0 : q 0 = false) (hpq : ∀ k, k = 0 ∨ (5 ≤ k ∧ k ≤ 8) → p (cm k) = q k) (s : Sim false W D P E) : Sim false (popp q W D).1 (popp q W D).2 (popp p P E).1 (popp p P E).2 := by
  refine ⟨wfW_pop _ _ s.1, ?_, fun v hv => ?_, fun I T env => ?_⟩
  · rw [popp_len, popp_len]; exact s.2.1
  · rw [popp_count _ _ (fun x hx _ => by have := wfW_mem s.1 x hx; intro z; subst z; rcases this with z | z
                                         · subst z; simp_all
                                         · omega), popp_count _ _ (fun x hx _ => by have := s.mem x hx; omega)]
    exact s.2.2.1 v hv
  · obtain ⟨F, x, h1, h2, h3⟩ := s.2.2.2 I T env
    subst h1
    subst h2
    have a := runC_pop (I := I) (T := T) (env := env) h0 F x D s.1 fun st => (h3 st).1
    have bb := runM_pop (I := I) (T := T) (env := env) h0 hpq (col I F) x E (col_mem s.1) fun st => (h3 st).2
    rw [vpop_col] at bb
    exact ⟨(vpop I q F x).1, (vpop I q F x).2, (cds_vpop F x D).symm, bb.1.symm, fun st => ⟨a st, bb.2 st⟩⟩
theorem Sim.leaf {a : Nat} (ha : a < 5) (s : Sim true W D P E) : Sim false W (D ++ [a]) P (E ++ [a]) := by
  refine ⟨s.1, ?_, fun v hv => ?_, fun I T env => ?_⟩
  · have := s.2.1
    rw [List.length_append, List.length_append]; omega
  · rw [List.count_append, List.count_append, s.2.2.1 v hv]
  · obtain ⟨F, x, h1, h2, h3⟩ := s.2.2.2 I T env
    refine ⟨F, leafV T env a, h1, h2, fun st => ⟨?_, ?_⟩⟩
    · rw [runC_app, (h3 st).1]
      show runC I T env [a] (vls F ++ st) = _
      rw [runC_leaf ha]; rfl
    · rw [runM_app, (h3 st).2]
      show runM I T env [a] (vls (col I F) ++ st) = _
      rw [runM_leaf ha]; rfl
theorem Sim.push {k : Nat} (hk : k = 0 ∨ k = 8) (s : Sim true W D P E) : Sim true (k :: W) D (cm k :: P) E := by
  refine ⟨⟨by omega, by omega, s.1⟩, ?_, s.2.2.1, fun I T env => ?_⟩
  · have := s.2.1
    show D.length + (W.length + 1) = E.length + (P.length + 1)
    omega
  · obtain ⟨F, x, h1, h2, h3⟩ := s.2.2.2 I T env
    have e : col I ((k, 0) :: F) = (k, 0) :: col I F := mrg_no (by omega)
    refine ⟨(k, 0) :: F, x, by rw [← h1]; rfl, by rw [e, ← h2]; rfl, fun st => ?_⟩
    rw [e]
    have e1 : ∀ G, vls ((k, 0) :: G) = vls G := fun G => if_pos hk
    rw [e1, e1]
    exact h3 st
theorem Sim.tail (s : Sim false (0 :: W) D P E) : Sim false W D P.tail E := by
  obtain ⟨F0, x0, g1, g2, -⟩ := s.2.2.2 (fun _ _ => 0) 0 fun _ => 0
  have sh : ∀ (I : Nat → Nat → Nat) (F : Fr), cds F = 0 :: W → ∃ a F2, F = (0, a) :: F2 ∧ cds F2 = W ∧ col I F = (0, a) :: col I F2 := fun I F e => by
    match F, e with
    | (k, a) :: F2, e =>
      injection e with e1 e2
      subst e1
      exact ⟨a, F2, rfl, e2, mrg_no (by omega)⟩
  refine ⟨s.1.2.2, ?_, s.2.2.1, fun I T env => ?_⟩
  · obtain ⟨a, F2, e1, e2, e3⟩ := sh _ F0 g1
    have := s.2.1
    rw [e3] at g2
    rw [← g2] at this ⊢
    have this : D.length + (W.length + 1) = E.length + ((cdm (col _ F2)).length + 1) := this
    show D.length + W.length = E.length + (cdm (col _ F2)).length
    omega
  · obtain ⟨F, x, h1, h2, h3⟩ := s.2.2.2 I T env
    obtain ⟨a, F2, e1, e2, e3⟩ := sh I F h1
    subst e1
    rw [e3] at h2 h3
    refine ⟨F2, x, e2, by rw [← h2]; rfl, fun st => h3 st⟩
theorem Sim.op5 (s : Sim false W D P E) (ht : tpc W ≤ 5) : Sim true (5 :: W) D (8 :: P) E := by
  refine ⟨⟨by omega, fun _ _ => ht, s.1⟩, ?_, s.2.2.1, fun I T env => ?_⟩
  · have := s.2.1
    show D.length + (W.length + 1) = E.length + (P.length + 1)
    omega
  · obtain ⟨F, x, h1, h2, h3⟩ := s.2.2.2 I T env
    have e : col I ((5, x) :: F) = (5, x) :: col I F := mrg_no (by omega)
    refine ⟨(5, x) :: F, 0, by rw [← h1]; rfl, by rw [e, ← h2]; rfl, fun st => ?_⟩
    rw [e]
    exact h3 st
theorem Sim.op67 {k : Nat} (hk : k = 6 ∨ k = 7) {p : Nat → Bool} (hp : ∀ j, j = 0 ∨ (5 ≤ j ∧ j ≤ 8) → p (cm j) = decide (k ≤ j)) (s : Sim false W D P E) : Sim true (k :: (popp (fun j => decide (k < j)) W D).1) (popp (fun j => decide (k < j)) W D).2 (cm k :: (popp p P E).1) (popp p P E).2 := by
  refine ⟨⟨by omega, fun _ _ => ?_, wfW_pop _ _ s.1⟩, ?_, fun v hv => ?_, fun I T env => ?_⟩
  · rcases tp_pop (p := fun j => decide (k < j)) W D with z | z
    · rw [z]; exact Nat.zero_le _
    · simpa using z
  · have h1 := popp_len (p := fun j => decide (k < j)) W D
    have h2 := popp_len (p := p) P E
    have := s.2.1
    show _ + (_ + 1) = _ + (_ + 1)
    omega
  · rw [popp_count _ _ (fun x hx hy => by simp at hy; omega), popp_count _ _ (fun x hx _ => by have := s.mem x hx; omega)]
    exact s.2.2.1 v hv
  · obtain ⟨F, x, h1, h2, h3⟩ := s.2.2.2 I T env
    subst h1
    subst h2
    have a := runC_pop (I := I) (T := T) (env := env) (p := fun j => decide (k < j)) (by simp) F x D s.1 fun st => (h3 st).1
    have bb := runM_pop (I := I) (T := T) (env := env) (q := fun j => decide (k ≤ j)) (by simp; omega) hp (col I F) x E (col_mem s.1) fun st => (h3 st).2
    have cp := col_push (I := I) hk F x s.1
    refine ⟨(k, (vpop I (fun j => decide (k < j)) F x).2) :: (vpop I (fun j => decide (k < j)) F x).1, 0, ?_, ?_, fun st => ⟨?_, ?_⟩⟩
    · rw [cds_vpop F x D]; rfl
    · rw [cp, bb.1]; rfl
    · rw [a st]
      show some (_ :: (vls _ ++ st)) = some ((if k = 0 ∨ k = 8 then _ else _ :: _) ++ st)
      rw [if_neg (by omega)]; rfl
    · rw [bb.2 st, cp]
      show some (_ :: (vls _ ++ st)) = some ((if k = 0 ∨ k = 8 then _ else _ :: _) ++ st)
      rw [if_neg (by omega)]; rfl
end SIM

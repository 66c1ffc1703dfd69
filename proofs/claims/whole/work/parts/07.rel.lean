/-! the relation of the abstract machine to the machine, and Ev -/
def rho (b B a : Nat) : Nat := match a with
  | 0 => b
  | i + 1 => B + i
def trV (b B : Nat) (v : Value) : Value := match v with
  | .ref a => .ref (rho b B a)
  | v => v
def isU (v : Value) : Bool := match v with
  | .float _ => true
  | _ => false
theorem trV_cat (b B : Nat) (v : Value) : (trV b B v).category = v.category := by cases v <;> rfl
def tyA (ci k : Nat) : FieldType := match ci with
  | 0 => tyX0 k
  | 1 => tyX1 k
  | 2 => tyX2 k
  | 3 => tyX3 k
  | 4 => tyX4 k
  | 5 => tyX5 k
  | 6 => tyX6 k
  | _ => tyX7 k
def isRefT (t : FieldType) : Bool := match t with
  | .object _ => true
  | .array _ => true
  | _ => false
def fvl (b B : Nat) (h : AH) (a ci k : Nat) : Value := bif isRefT (tyA ci k) then va_rf ((h.2.2.2 a k).map (rho b B)) else .int (h.2.1 a k)
def eOf (cA : Nat → ClassId) (b B : Nat) (h : AH) (a : Nat) (q : Nat × Nat) : va_E := match q.1 with
  | 0 => .inl (cA 0, q.2, .inl (h.2.1 a))
  | 1 => .inl (cA 1, q.2, .inr (.inl (h.2.2.1 a)))
  | 2 => .inl (cA 2, q.2, .inl (h.2.1 a))
  | 3 => .inl (cA 3, q.2, .inr (.inr (.inr (.inr fun j => (h.2.2.2 a j).map (rho b B)))))
  | 4 => .inl (cA 4, q.2, .inr (.inr (.inr (.inr fun j => (h.2.2.2 a j).map (rho b B)))))
  | 5 => .inl (cA 5, q.2, .inr (.inr (.inr (.inr fun j => (h.2.2.2 a j).map (rho b B)))))
  | t => .inr (t - 10, (List.range q.2).map (fvl b B h a (t - 10)))
def scrR (cS : ClassId) (b : Nat) (h : AH) (H : Heap) : Prop := ∃ (L : Nat) (scr : Cell), h.1[0]? = some (9, L) ∧ H[b]? = some scr ∧ scr.cls = cS ∧ scr.vm ≠ .unknown ∧ (∀ k, scr.vm ≠ .statics k) ∧ scr.slots.size = L ∧ ∀ j, j < L → scr.slots[j]? = some (.int (h.2.1 0 j))
def HR (D : va_G) (cA : Nat → ClassId) (cS : ClassId) (b B : Nat) (h : AH) (H : Heap) : Prop :=
  H.size + 1 = B + h.1.length ∧ b < B ∧ scrR cS b h H ∧ ∀ (a : Nat) (q : Nat × Nat), h.1[a + 1]? = some q → q.1 ≠ 9 ∧ va_at D vwCl (B + a, eOf cA b B h (a + 1) q) H
def tysL (cA : Nat → ClassId) : List (ClassId × FieldType) := [(cA 0, .int), (cA 1, .long), (cA 2, .boolean), (cA 3, .object RX2), (cA 4, .object RX0), (cA 5, .object RX3)]
def TB (D : va_G) (cA : Nat → ClassId) (cS : ClassId) (U : State) : Prop :=
  va_K D vwCl (tysL cA) U ∧ (∀ q ∈ nesT, va_Nw (.methodLinkNest (ow q.1) q.2.1 (mn (q.2.2 / 32768)) "ImplicationAlgebras") U) ∧ (va_AO RX2 U ∧ va_AO RX0 U ∧ va_AO RX3 U) ∧ ∃ (k : Class) (comp : ClassId), U.vm.classes[cS]? = some k ∧ k.kind = .array comp .int
theorem TB.moved {D : va_G} {cA : Nat → ClassId} {cS : ClassId} {u U : State} (hW : u.WarmedH U.vm) (h : TB D cA cS u) : TB D cA cS U := by
  obtain ⟨h1, h2, ⟨h3, h4, h5⟩, k, comp, h6, h7⟩ := h
  have hvm := hW.alike
  obtain ⟨k', hk', he⟩ := hvm.2.2 _ _ h6
  exact ⟨va_K.moved hvm h1, fun q hq => va_Nw.warmM hW (h2 q hq), ⟨h3.moved hvm, h4.moved hvm, h5.moved hvm⟩, k', comp, hk', by rw [he]; exact h7⟩
theorem TB.same {D : va_G} {cA : Nat → ClassId} {cS : ClassId} {u U : State} (hvm : u.vm = U.vm) (h : TB D cA cS u) : TB D cA cS U := by
  obtain ⟨h1, h2, ⟨h3, h4, h5⟩, k, comp, h6, h7⟩ := h
  have ha : u.vm.Alike U.vm := by rw [hvm]; exact Vm.Alike.refl _
  exact ⟨va_K.moved ha h1, fun q hq => va_Nw.same rfl hvm (h2 q hq), ⟨h3.moved ha, h4.moved ha, h5.moved ha⟩, k, comp, by rw [← hvm]; exact h6, h7⟩
def GWL : List Cond := lw_tbl.filter goodWord
theorem gw_in {w : Cond} (h : w ∈ lw_tbl) (hg : goodWord w = true) : w ∈ GWL := List.mem_filter.mpr ⟨h, hg⟩
theorem gw_good : ∀ w ∈ GWL, (w.onTables && w.keeps) = true ∨ ∃ ty, w = .arrayClass ty := fun w h => good_of_word (List.mem_filter.mp h).2
def CX (p : Program) (s : State) (m : MethodId) (args : Array Value) (meth : Method) (c : Code) (q : Mt) : Prop :=
  p.tables.exec = Jvm.exec ∧ c.code = q.2.1 ∧ c.maxLocals = q.2.2.1 ∧ meth.sig.returnType = q.2.2.2.1 ∧ s.vm.findClass (ow q.2.2.2.2.1) = some m.cls ∧ (q.1.name = "<init>" → meth.name = "<init>") ∧ meth.locks = false ∧ ∀ w ∈ GWL, w.before args s = true
def enL (b B : Nat) : Nat → List Value → List (Nat × Value)
  | _, [] => []
  | i, v :: l => bif isU v then enL b B (i + 1) l else (i, trV b B v) :: enL b B (i + 1) l
def LR (b B : Nat) (lsC : Array Slot) (n : Nat) (ls : List Value) : Prop := lv_has lsC n (enL b B 0 ls)
def retI (v : Value) : Instr := match v with
  | .int _ => .ireturn
  | .long _ => .lreturn
  | .retAddr _ => .return_
  | _ => .areturn
def retS (b B : Nat) (v : Value) : List Value := match v with
  | .retAddr _ => []
  | v => [trV b B v]
def vOK (rt : Option FieldType) (v : Value) : Prop := match v with
  | .int x => rt = some .int ∨ (rt = some .boolean ∧ isB x = true)
  | .long _ => rt = some .long
  | .retAddr _ => rt = none
  | .ref _ => ∃ C, rt = some (.object C)
  | .null => ∃ C, rt = some (.object C)
  | _ => False
/-- from this point of method y, with the locals, the stack and the heap, the method ends, and Q holds of its answer and its heap -/
def Ev (d g g' y pc : Nat) (ls st : List Value) (h : AH) (Q : PQ) : Prop :=
  ∀ (q : Mt) (l : Launch) (D : va_G) (cA : Nat → ClassId) (cS : ClassId) (b B : Nat) (p : Program) (e : Env) (R : Room) (s : State) (m : MethodId) (args : Array Value) (below : List Frame) (meth : Method) (c : Code) (H : Heap) (locs : List Loc) (cells slots : Nat) (Z : State → Prop) (mc ms : Nat) (lsC : Array Slot) (h0 : AH),
    Ms[y]? = some q → CX p s m args meth c q → TB D cA cS s → HR D cA cS b B h H → (∀ x ∈ locs, B ≤ x.base) → Ext h0 h → LR b B lsC q.2.2.1 ls → d ≤ R.frames → 60 * d ≤ R.locals → g' ≤ g → cells + (g - g') ≤ mc → slots + 400 * (g - g') ≤ ms → mc ≤ R.cells → ms ≤ R.slots →
    (∀ (v : Value) (h1 : AH) (H1 : Heap) (locs1 : List Loc) (pc1 : Nat) (lsC1 : Array Slot), Q v h1 → Ext h0 h1 → HR D cA cS b B h1 H1 → (∀ x ∈ locs1, B ≤ x.base) → vOK q.2.2.2.1 v → decode q.2.1 pc1 = .ok (retI v, 1) → W p l e R s m args below meth c H1 locs1 mc ms Z (F0 m pc1 lsC1 (retS b B v))) →
    W p l e R s m args below meth c H locs cells slots Z (F0 m pc lsC (st.map (trV b B)))
/-! locals -/
theorem enL_mem {b B : Nat} {j : Nat} {w : Value} : ∀ (l : List Value) (i : Nat), (j, w) ∈ enL b B i l ↔ ∃ k v, l[k]? = some v ∧ isU v = false ∧ j = i + k ∧ w = trV b B v
  | [], i => by simp [enL]
  | a :: l, i => by
    have ih := enL_mem (b := b) (B := B) (j := j) (w := w) l (i + 1)
    unfold enL
    cases hu : isU a with
    | true =>
      simp only [cond_true]
      rw [ih]
      constructor
      · rintro ⟨k, v, h1, h2, h3, h4⟩
        exact ⟨k + 1, v, by simpa using h1, h2, by omega, h4⟩
      · rintro ⟨k, v, h1, h2, h3, h4⟩
        cases k with
        | zero => simp at h1; subst h1; rw [hu] at h2; cases h2
        | succ k => exact ⟨k, v, by simpa using h1, h2, by omega, h4⟩
    | false =>
      simp only [cond_false, List.mem_cons]
      rw [ih]
      constructor
      · rintro (h | ⟨k, v, h1, h2, h3, h4⟩)
        · cases h
          exact ⟨0, a, rfl, hu, by omega, rfl⟩
        · exact ⟨k + 1, v, by simpa using h1, h2, by omega, h4⟩
      · rintro ⟨k, v, h1, h2, h3, h4⟩
        cases k with
        | zero =>
          simp at h1
          subst h1
          left
          simp only [Nat.add_zero] at h3
          rw [h3, h4]
        | succ k => exact Or.inr ⟨k, v, by simpa using h1, h2, by omega, h4⟩
theorem gL_get : ∀ (ls : List Value) (k : Nat), isU (gL ls k) = false → ls[k]? = some (gL ls k)
  | [], k, h => by simp [gL, isU] at h
  | v :: l, 0, h => rfl
  | v :: l, k + 1, h => by
    have := gL_get l k h
    simpa [gL] using this
theorem LR.get {b B n k : Nat} {lsC : Array Slot} {ls : List Value} {v : Value} (h : LR b B lsC n ls) (hg : gL ls k = v) (hv : isU v = false) : lsC[k]? = some (.val (trV b B v)) := by
  have h1 := gL_get ls k (by rw [hg]; exact hv)
  rw [hg] at h1
  exact h.2.2 (k, trV b B v) ((enL_mem ls 0).mpr ⟨k, v, h1, hv, by omega, rfl⟩)
theorem stL_get (v : Value) : ∀ (k : Nat) (ls : List Value) (j : Nat) (w : Value), (stL ls k v)[j]? = some w → isU w = false → (j = k ∧ w = v) ∨ (j ≠ k ∧ ls[j]? = some w ∧ ¬ (j + 1 = k ∧ w.category = 2)) := by
  intro k
  induction k with
  | zero =>
    intro ls j w h hu
    cases ls with
    | nil =>
      cases j with
      | zero => simp [stL] at h; exact Or.inl ⟨rfl, h.symm⟩
      | succ j => simp [stL] at h
    | cons a l =>
      cases j with
      | zero => simp [stL] at h; exact Or.inl ⟨rfl, h.symm⟩
      | succ j => exact Or.inr ⟨by omega, by simpa [stL] using h, by omega⟩
  | succ k ih =>
    intro ls j w h hu
    cases ls with
    | nil =>
      cases j with
      | zero => simp [stL] at h; subst h; simp [isU] at hu
      | succ j =>
        have h1 : (stL [] k v)[j]? = some w := by simpa [stL] using h
        rcases ih [] j w h1 hu with h2 | h2
        · exact Or.inl ⟨by omega, h2.2⟩
        · simp at h2
    | cons a l =>
      cases k with
      | zero =>
        cases j with
        | zero =>
          have h1 : kl2 a = w := by simpa [stL] using h
          unfold kl2 at h1
          cases hc : Nat.beq a.category 2 with
          | true => rw [hc] at h1; simp only [cond_true] at h1; subst h1; simp [isU] at hu
          | false =>
            rw [hc] at h1
            simp only [cond_false] at h1
            subst h1
            exact Or.inr ⟨by omega, rfl, fun q => by rw [q.2] at hc; cases hc⟩
        | succ j =>
          have h1 : (stL l 0 v)[j]? = some w := by simpa [stL] using h
          rcases ih l j w h1 hu with h2 | h2
          · exact Or.inl ⟨by omega, h2.2⟩
          · exact Or.inr ⟨by omega, by simpa using h2.2.1, fun q => h2.2.2 ⟨by omega, q.2⟩⟩
      | succ k =>
        cases j with
        | zero => exact Or.inr ⟨by omega, by simpa [stL] using h, by omega⟩
        | succ j =>
          have h1 : (stL l (k + 1) v)[j]? = some w := by simpa [stL] using h
          rcases ih l j w h1 hu with h2 | h2
          · exact Or.inl ⟨by omega, h2.2⟩
          · exact Or.inr ⟨by omega, by simpa using h2.2.1, fun q => h2.2.2 ⟨by omega, q.2⟩⟩
theorem keepL_get : ∀ (ls : List Value) (m j : Nat) (w : Value), (keepL ls m)[j]? = some w → isU w = false → ls[j]? = some w
  | [], m, j, w, h, hu => by simp [keepL] at h
  | a :: l, m, j, w, h, hu => by
    unfold keepL at h
    cases h0 : Nat.beq m 0 with
    | true => rw [h0] at h; simp at h
    | false =>
      rw [h0] at h
      simp only [cond_false] at h
      cases j with
      | zero =>
        simp only [List.getElem?_cons_zero, Option.some.injEq] at h
        cases h1 : Nat.beq (m % 2) 1 with
        | true => rw [h1] at h; simp only [cond_true] at h; rw [← h]; rfl
        | false => rw [h1] at h; simp only [cond_false] at h; subst h; simp [isU] at hu
      | succ j =>
        simp only [List.getElem?_cons_succ] at h ⊢
        exact keepL_get l (m / 2) j w h hu
theorem lv_has.sub {lsC : Array Slot} {n : Nat} {l l' : List (Nat × Value)} (h : lv_has lsC n l) (hs : ∀ q ∈ l', q ∈ l) : lv_has lsC n l' := ⟨h.1, h.2.1, fun q hq => h.2.2 q (hs q hq)⟩
theorem LR.keep {b B n m : Nat} {lsC : Array Slot} {ls : List Value} (h : LR b B lsC n ls) : LR b B lsC n (keepL ls m) := by
  refine lv_has.sub h fun q hq => ?_
  obtain ⟨j, w⟩ := q
  obtain ⟨k, v, h1, h2, h3, h4⟩ := (enL_mem _ 0).mp hq
  exact (enL_mem _ 0).mpr ⟨k, v, keepL_get _ _ _ _ h1 h2, h2, h3, h4⟩
theorem LR.st1 {b B n k : Nat} {ls : List Value} {v : Value} {lsC' : Array Slot} (h : lv_has lsC' n ((k, trV b B v) :: (enL b B 0 ls).filter (fun q => !(q.1 == k) && !(q.1 + 1 == k && q.2.category == 2)))) : LR b B lsC' n (stL ls k v) := by
  refine lv_has.sub h fun q hq => ?_
  obtain ⟨j, w⟩ := q
  obtain ⟨i, u, h1, h2, h3, h4⟩ := (enL_mem _ 0).mp hq
  have hj : j = i := by omega
  subst hj
  rcases stL_get v k ls j u h1 h2 with ⟨e1, e2⟩ | ⟨e1, e2, e3⟩
  · rw [e1, h4, e2]
    exact List.mem_cons_self
  · refine List.mem_cons_of_mem _ (List.mem_filter.mpr ⟨(enL_mem _ 0).mpr ⟨j, u, e2, h2, by omega, h4⟩, ?_⟩)
    have e4 : (j == k) = false := by simpa using e1
    simp only [e4, Bool.not_false, Bool.true_and, Bool.not_eq_true', Bool.and_eq_false_imp]
    intro e5
    have e5 : j + 1 = k := by simpa using e5
    rw [h4, trV_cat]
    simpa using fun e6 => e3 ⟨e5, e6⟩
theorem LR.st2 {b B n k : Nat} {ls : List Value} {x : Int64} {lsC' : Array Slot} (h : lv_has lsC' n ((k, Value.long x) :: (enL b B 0 ls).filter (fun q => !(q.1 == k) && (!(q.1 == k + 1) && !(q.1 + 1 == k && q.2.category == 2))))) : LR b B lsC' n (stL (stL ls (k + 1) unk) k (.long x)) := by
  refine lv_has.sub h fun q hq => ?_
  obtain ⟨j, w⟩ := q
  obtain ⟨i, u, h1, h2, h3, h4⟩ := (enL_mem _ 0).mp hq
  have hj : j = i := by omega
  subst hj
  rcases stL_get _ k _ j u h1 h2 with ⟨e1, e2⟩ | ⟨e1, e2, e3⟩
  · rw [e1, h4, e2]
    exact List.mem_cons_self
  · rcases stL_get _ (k + 1) _ j u e2 h2 with ⟨f1, f2⟩ | ⟨f1, f2, f3⟩
    · rw [f2] at h2
      cases h2
    · refine List.mem_cons_of_mem _ (List.mem_filter.mpr ⟨(enL_mem _ 0).mpr ⟨j, u, f2, h2, by omega, h4⟩, ?_⟩)
      have e4 : (j == k) = false := by simpa using e1
      have f4 : (j == k + 1) = false := by simpa using f1
      simp only [e4, f4, Bool.not_false, Bool.true_and, Bool.not_eq_true', Bool.and_eq_false_imp]
      intro e5
      have e5 : j + 1 = k := by simpa using e5
      rw [h4, trV_cat]
      simpa using fun e6 => e3 ⟨e5, e6⟩
theorem exL_args {b B : Nat} : ∀ (av : List Value) (i : Nat), ∀ q ∈ enL b B i (exL av), q ∈ lv_args i (av.map (trV b B))
  | [], i, q, h => by simp [exL, enL] at h
  | v :: l, i, q, h => by
    unfold exL at h
    cases hc : Nat.beq v.category 2 with
    | true =>
      have hc2 : v.category = 2 := Nat.eq_of_beq_eq_true hc
      rw [hc] at h
      simp only [cond_true] at h
      have hv : isU v = false := by cases v <;> first | rfl | (simp [Value.category] at hc2)
      have e : enL b B i (v :: unk :: exL l) = (i, trV b B v) :: enL b B (i + 2) (exL l) := by
        show (bif isU v then _ else _) = _
        rw [hv]
        rfl
      rw [e] at h
      simp only [List.map_cons, lv_args, trV_cat, hc2, if_true, List.mem_cons]
      rcases List.mem_cons.mp h with h | h
      · exact Or.inl h
      · exact Or.inr (exL_args l (i + 2) q h)
    | false =>
      rw [hc] at h
      simp only [cond_false] at h
      have hc2 : ¬ v.category = 2 := fun e => by rw [e] at hc; cases hc
      simp only [List.map_cons, lv_args, trV_cat, if_neg hc2, List.mem_cons]
      unfold enL at h
      cases hu : isU v with
      | true => rw [hu] at h; simp only [cond_true] at h; exact Or.inr (exL_args l (i + 1) q h)
      | false =>
        rw [hu] at h
        simp only [cond_false, List.mem_cons] at h
        rcases h with h | h
        · exact Or.inl h
        · exact Or.inr (exL_args l (i + 1) q h)
theorem sl_len {b B : Nat} : ∀ (av : List Value), (lg_sl (av.map (trV b B))).length = wsum av
  | [] => rfl
  | v :: l => by
    have ih := sl_len (b := b) (B := B) l
    simp only [lg_sl, List.map_cons, List.flatMap_cons, List.length_append, wsum, trV_cat] at ih ⊢
    rw [ih]
    have h12 : v.category = 2 ∨ v.category = 1 := by cases v <;> simp [Value.category]
    rcases h12 with h | h <;> simp [h]
theorem wsum_map {b B : Nat} : ∀ (s : List Value), ((s.map (trV b B)).map fun v => v.category).sum = wsum s
  | [] => rfl
  | v :: l => by simp only [List.map_cons, List.sum_cons, wsum, trV_cat, wsum_map l]

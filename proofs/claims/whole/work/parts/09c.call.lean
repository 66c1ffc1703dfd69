/-! calls -/
def rvO (b B : Nat) (v : Value) : Option Value := match v with
  | .retAddr _ => none
  | v => some (trV b B v)
def cPc (D : va_G) (cA : Nat → ClassId) (cS : ClassId) (b B : Nat) (av : List Value) (h : AH) : Array Value → State → Prop := fun v U => v = (av.map (trV b B)).toArray ∧ HR D cA cS b B h U.heap ∧ TB D cA cS U
def cQc (D : va_G) (cA : Nat → ClassId) (cS : ClassId) (b B : Nat) (rt : Option FieldType) (h : AH) (Q : PQ) : Array Value → State → Outcome → State → Prop := fun _ _ o t => ∃ (v : Value) (h1 : AH), o = .returned (rvO b B v) ∧ Q v h1 ∧ Ext h h1 ∧ HR D cA cS b B h1 t.heap ∧ vOK rt v
theorem met_of_ev {l : Launch} {D : va_G} {cA : Nat → ClassId} {cS : ClassId} {b B d g g1 y : Nat} {q : Mt} {av : List Value} {h : AH} {Q : PQ} (hq : Ms[y]? = some q) (hpl : plainName q.1.cls = true) (hE : Ev d g g1 y 0 (exL av) [] h Q) (hg : g1 ≤ g) (hw : wsum av ≤ q.2.2.1) :
    Met l q.1 (.code q.1 q.2.1 q.2.2.1 q.2.2.2.1 :: GWL) { frames := d, cells := g - g1, slots := 400 * (g - g1), locals := 60 * d } (cPc D cA cS b B av h) (cQc D cA cS b B q.2.2.2.1 h Q) (g - g1) (400 * (g - g1)) (fun x => B ≤ x) := by
  refine Met.ofW (cc := q.2.1) (maxL := q.2.2.1) (ret := q.2.2.2.1) hpl rfl ?_
  intro p e s m args below meth c s₁ B0 hml hv
  obtain ⟨rfl, hH, hT⟩ := hv
  have hts := atoms_spec (ws := .code q.1 q.2.1 q.2.2.1 q.2.2.2.1 :: GWL) B0.pre
  have hown : s.vm.findClass q.1.cls = some m.cls := findClass_of_methodNamed B0.named
  have how : q.1.cls = ow q.2.2.2.2.1 := by
    have := List.all_eq_true.mp ok_own q (List.mem_of_getElem? hq)
    exact of_decide_eq_true this
  have hname : meth.name = q.1.name := (name_of_methodNamed B0.named B0.method).1
  have hlk := B0.notSynchronized
  have hex := B0.exec
  have hbt := B0.bytes
  have hr := B0.returns
  have hl := lv_entry (av.map (trV b B)) (n := q.2.2.1) (by rw [sl_len]; exact hw)
  rw [lg_entry_eq]
  generalize (lg_sl (av.map (trV b B)) ++ List.replicate (q.2.2.1 - (lg_sl (av.map (trV b B))).length) Slot.unset).toArray = lsC at hl ⊢
  have hLR : LR b B lsC q.2.2.1 (exL av) := hl.sub (exL_args av 0)
  refine hE q l D cA cS b B p e _ s m _ below meth c s.heap [] 0 0 _ (g - g1) (400 * (g - g1)) lsC h hq ⟨hex, hbt, hml, hr, by rw [← how]; exact hown, fun hz => hname.trans hz, hlk, fun w hw => hts w (List.mem_cons_of_mem _ hw)⟩ hT hH (fun x hx => by cases hx) Ext.rfl' hLR (Nat.le_refl _) (Nat.le_refl _) hg (by omega) (by omega) (Nat.le_refl _) (Nat.le_refl _) ?_
  intro v h1 H1 locs1 pc1 lsC1 hQ hx hH1 hlo hok hdg
  have post : ∀ t : State, t.heap = H1 → s.WarmedH t.vm → cQc D cA cS b B q.2.2.2.1 h Q ((av.map (trV b B)).toArray) s (.returned (rvO b B v)) t := fun t ht _ => ⟨v, h1, rfl, hQ, hx, by rw [ht]; exact hH1, hok⟩
  cases v with
  | int x =>
    rcases hok with h2 | ⟨h2, h3⟩
    · exact W.iret hex hbt (hr.trans h2) post hlo hdg
    · refine W.zret (ty := .boolean) hex hbt (hr.trans h2) ?_ post hlo hdg
      unfold isB at h3
      rw [Bool.or_eq_true] at h3
      rcases h3 with h3 | h3
      · rw [eq_of_beq h3]; rfl
      · rw [eq_of_beq h3]; rfl
  | long x => exact W.lret hex hbt (hr.trans hok) post hlo hdg
  | retAddr x => exact W.vret hex hbt (hr.trans hok) post hlo hdg
  | ref x =>
    obtain ⟨C, hC⟩ := hok
    exact W.aret (rt := .object C) hex hbt (hr.trans hC) (Or.inl ⟨C, rfl⟩) (Or.inr ⟨_, rfl⟩) post hlo hdg
  | null =>
    obtain ⟨C, hC⟩ := hok
    exact W.aret (rt := .object C) hex hbt (hr.trans hC) (Or.inl ⟨C, rfl⟩) (Or.inl rfl) post hlo hdg
  | float x => exact hok.elim
  | double x => exact hok.elim
section CAL
variable {D : va_G} {cA : Nat → ClassId} {cS : ClassId} {b B : Nat} {h : AH} {p : Program} {l : Launch} {e : Env} {R : Room} {s : State} {m : MethodId} {args : Array Value} {below : List Frame} {meth : Method} {c : Code} {H : Heap} {locs : List Loc} {cells slots : Nat} {Z : State → Prop} {q : Mt} {pc idx : Nat} {lsC : Array Slot}
theorem run_then {mc ms : Nat} {rest st0 : List Value} {Qa : State → Outcome → State → Prop} {free : Addr → Prop} (hr : va_Run p l e R s m args below meth c H locs cells slots mc ms (F0 m pc lsC st0) rest Qa free)
    (kk : ∀ (v : Option Value) (st1 t : State) (L : List Loc), (∀ x ∈ L, free x.base) → Qa st1 (.returned v) t → W p l e R s m args below meth c t.heap (locs ++ L) (cells + mc) (slots + ms) Z (F0 m (pc + 3) lsC (v.toList ++ rest))) : W p l e R s m args below meth c H locs cells slots Z (F0 m pc lsC st0) := by
  intro T hT X
  obtain ⟨v, st₀, t, T', L, h0, X', hL, e1, e2, hq, st⟩ := hr T hT X
  obtain ⟨t2, a1, b1⟩ := kk v st₀ t L hL hq T' e1 X'
  exact ⟨t2, st t2 a1, b1⟩
theorem blind {av : List Value} : FrameBlind (cPc D cA cS b B av h) := by
  intro a U g mk hp
  exact ⟨hp.1, hp.2.1, TB.same (u := U) rfl hp.2.2⟩
theorem gin {ws : List Cond} {w : Cond} (hw : w ∈ GWL) : GoodIn GWL (w :: GWL) := fun x hx => (List.mem_cons.mp hx).elim (fun e => by rw [e]; exact ⟨hw, gw_good w hw⟩) (fun hx => ⟨hx, gw_good x hx⟩)
/-- what the number of a callee says -/
theorem cal_ok {ee : Nat} (hok : eOK ee = true) : ∃ qc : Mt, Ms[ee / 32768]? = some qc ∧ mn (ee / 32768) = qc.1 ∧ (parseMethodDescriptor qc.1.desc).map (fun d => d.parameters.length) = some (ee / 8 % 16) ∧ (match ee % 8, qc.2.2.2.1 with
    | 0, none => true
    | 1, some .int => true
    | 1, some .boolean => true
    | 2, some .long => true
    | 3, some (.object _) => true
    | _, _ => false) = true ∧ plainName qc.1.cls = true ∧ qc.1.cls ≠ "java/lang/invoke/MethodHandle" ∧ qc.1.cls ≠ "java/lang/invoke/VarHandle" ∧ qc.2.2.1 ≤ 30 ∧ ee / 2048 % 16 ≤ qc.2.2.1 ∧ Cond.code qc.1 qc.2.1 qc.2.2.1 qc.2.2.2.1 ∈ GWL := by
  unfold eOK at hok
  cases hM : Ms[ee / 32768]? with
  | none => rw [hM] at hok; cases hok
  | some qc =>
    rw [hM] at hok
    simp only [Bool.and_eq_true, decide_eq_true_eq] at hok
    obtain ⟨⟨⟨⟨⟨⟨⟨a1, a2⟩, a3⟩, a4⟩, a5⟩, a6⟩, a7⟩, a8⟩ := hok
    refine ⟨qc, rfl, ?_, a2, a3, a4, a5, a6, Nat.le_of_ble_eq_true a7, Nat.le_of_ble_eq_true a8, gw_in (wd_code _ qc (Nat.lt_of_lt_of_le (Nat.lt_succ_self _) (Nat.le_of_ble_eq_true a1)) hM) rfl⟩
    unfold mn
    rw [List.getD_eq_getElem?_getD, hM]
    rfl
/-- behind a call -/
theorem cal_then {ar : Array Value} {st0 : List Value} {g g1 g' mc ms mL ee : Nat} {qc : Mt} {sr : List Value} {ls : List Value} {h0 : AH} {nx : Nat → List Value → AH → Prop}
    (hkd : (match ee % 8, qc.2.2.2.1 with
    | 0, none => true
    | 1, some .int => true
    | 1, some .boolean => true
    | 2, some .long => true
    | 3, some (.object _) => true
    | _, _ => false) = true)
    (hlo : ∀ x ∈ locs, B ≤ x.base) (hx : Ext h0 h) (hL : LR b B lsC mL ls) (hgg : g' ≤ g1 ∧ g1 ≤ g) (hc : cells + (g - g') ≤ mc) (hsl : slots + 400 * (g - g') ≤ ms)
    (hnx : ∀ (g2 : Nat) (st : List Value) (h2 : AH), nx g2 st h2 → ∀ (H : Heap) (locs : List Loc) (cells slots : Nat), HR D cA cS b B h2 H → (∀ x ∈ locs, B ≤ x.base) → Ext h0 h2 → g' ≤ g2 → cells + (g2 - g') ≤ mc → slots + 400 * (g2 - g') ≤ ms → W p l e R s m args below meth c H locs cells slots Z (F0 m (pc + 3) lsC (st.map (trV b B))))
    (hr : va_Run p l e R s m args below meth c H locs cells slots (g - g1) (400 * (g - g1)) (F0 m pc lsC st0) (sr.map (trV b B)) (cQc D cA cS b B qc.2.2.2.1 h (match ee % 8 with
      | 0 => asV fun h1 => Ext h h1 → nx g1 sr h1
      | 1 => asI fun x h1 => Ext h h1 → nx g1 (.int x :: sr) h1
      | 2 => asL fun x h1 => Ext h h1 → nx g1 (.long x :: sr) h1
      | _ => asR fun r h1 => Ext h h1 → (r = none → nx g1 (.null :: sr) h1) ∧ (∀ a, r = some a → nx g1 (.ref a :: sr) h1)) ar) (fun x => B ≤ x)) :
    W p l e R s m args below meth c H locs cells slots Z (F0 m pc lsC st0) := by
  refine run_then hr fun v st1 t L hLo hq => ?_
  obtain ⟨w, h1, e1, hQ, hx1, hH1, hok⟩ := hq
  have e1 : v = rvO b B w := by cases e1; rfl
  subst e1
  have hlo1 : ∀ x ∈ locs ++ L, B ≤ x.base := fun x hx => (List.mem_append.mp hx).elim (hlo x) (hLo x)
  have hgo : ∀ st, nx g1 st h1 → W p l e R s m args below meth c t.heap (locs ++ L) (cells + (g - g1)) (slots + 400 * (g - g1)) Z (F0 m (pc + 3) lsC (st.map (trV b B))) := fun st hn => hnx g1 st h1 hn t.heap _ _ _ hH1 hlo1 (hx.trans hx1) hgg.1 (by omega) (by omega)
  revert hkd hQ hok
  generalize qc.2.2.2.1 = rt
  match ee % 8 with
  | 0 => intro hkd hQ hok; cases w <;> first | exact hQ.elim | exact hgo _ (hQ hx1)
  | 1 => intro hkd hQ hok; cases w <;> first | exact hQ.elim | exact hgo _ (hQ hx1)
  | 2 => intro hkd hQ hok; cases w <;> first | exact hQ.elim | exact hgo _ (hQ hx1)
  | 3 => intro hkd hQ hok; cases w <;> first | exact hQ.elim | exact hgo _ ((hQ hx1).2 _ rfl) | exact hgo _ ((hQ hx1).1 rfl)
  | k + 4 => intro hkd hQ hok; cases w <;> first | exact hQ.elim | exact hgo _ ((hQ hx1).2 _ rfl) | exact hgo _ ((hQ hx1).1 rfl)
end CAL

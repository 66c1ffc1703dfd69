/-! one step of the abstract machine is sound -/
section CPY
variable {D : va_G} {cA : Nat → ClassId} {cS : ClassId} {b B : Nat} {h : AH} {p : Program} {l : Launch} {e : Env} {R : Room} {s : State} {m : MethodId} {args : Array Value} {below : List Frame} {meth : Method} {c : Code} {H : Heap} {locs : List Loc} {cells slots : Nat} {Z : State → Prop} {q : Mt} {pc idx : Nat} {lsC : Array Slot}
theorem sd_copy (hCX : CX p s m args meth c q) (hTB : TB D cA cS s) (hdec : decode q.2.1 pc = .ok (.invokestatic idx, 3)) {ee : Nat} (hl : lk cpyT q.2.2.2.2.1 idx = some ee) (hH : HR D cA cS b B h H) (hlo : ∀ x ∈ locs, B ≤ x.base) (hsz : lsC.size = q.2.2.1) {a0 a1 n0 n1 : Nat} (e0 : hs h a0 = some (0, n0)) (e1 : hs h a1 = some (0, n1)) {sp dp n : Int32} (h1 : ¬ sp < 0) (h2 : ¬ dp < 0) (h3 : ¬ n < 0) (h4 : sp.toNatClampNeg + n.toNatClampNeg ≤ n0) (h5 : dp.toNatClampNeg + n.toNatClampNeg ≤ n1) (hframes : 1 ≤ R.frames) (hlocals : 60 ≤ R.locals) {rest : List Value} (hrest : (rest.map fun v => v.category).sum ≤ 8)
    (kk : ∀ (H1 : Heap) (locs1 : List Loc), HR D cA cS b B (wa h a1 (va_cpy (h.2.1 a0) (h.2.1 a1) sp.toNatClampNeg dp.toNatClampNeg n.toNatClampNeg)) H1 → (∀ x ∈ locs1, B ≤ x.base) → W p l e R s m args below meth c H1 locs1 cells slots Z (F0 m (pc + 3) lsC rest)) : W p l e R s m args below meth c H locs cells slots Z (F0 m pc lsC (.int n :: .int dp :: .ref (rho b B a1) :: .int sp :: .ref (rho b B a0) :: rest)) := by
  obtain ⟨hex, hb, hml, hrt, hown, hnm, hlk, hts⟩ := hCX
  have w1 := hts _ (gw_in (wd_cpy _ (lk_mem hl)) rfl)
  have w2 := hts _ (gw_in wd_cn rfl)
  have w3 := hts _ (gw_in wd_cs rfl)
  have w4 := hts _ (gw_in wd_ci rfl)
  have nn : ∀ z : Int32, ¬ z < 0 → z.toInt = (z.toNatClampNeg : Int) := by
    intro z hz
    have hz0 : (0 : Int) ≤ z.toInt := by
      have := Int32.not_lt.mp hz
      simpa using Int32.le_iff_toInt_le.mp this
    show z.toInt = ((z.toInt.toNat : Nat) : Int)
    omega
  obtain ⟨hc0, -⟩ := hH.at e0 (by simp)
  obtain ⟨hc1, hB1⟩ := hH.at e1 (by simp)
  have hc0 : H[rho b B a0]? = some (vp_cell (cA 0) (n0, .inl (h.2.1 a0))) := hc0
  have hc1 : H[rho b B a1]? = some (vp_cell (cA 0) (n1, .inl (h.2.1 a1))) := hc1
  have hK := hTB.1
  intro T hT X
  obtain ⟨-, k0, hk0, cm0, hkk0⟩ := (hK.2 0 (cA 0, .int) rfl).1 n0 (fun j => .int (h.2.1 a0 j))
  obtain ⟨-, k1, hk1, cm1, hkk1⟩ := (hK.2 0 (cA 0, .int) rfl).1 n1 (fun j => .int (h.2.1 a1 j))
  obtain ⟨vm', X', step⟩ := X.arraycopy hex hown w1 w2 w3 w4 (src := rho b B a0) (dst := rho b B a1) (cs := vp_cell (cA 0) (n0, .inl (h.2.1 a0))) (cd := vp_cell (cA 0) (n1, .inl (h.2.1 a1))) (srcPos := sp) (destPos := dp) (n := n) (by rw [hT]; exact hc0) (by rw [hT]; exact hc1)
    (fun _ h => by cases h) (fun _ h => by cases h) (fun h => by cases h) (fun h => by cases h) hk0 hk1 hkk0 hkk1 (by simp [refKind]) h1 h2 h3
    (by rw [nn sp h1, nn n h3]; show ¬ _ > ((arrV (cA 0) n0 (fun j => .int (h.2.1 a0 j))).slots.size : Int); rw [arrV_size]; omega)
    (by rw [nn dp h2, nn n h3]; show ¬ _ > ((arrV (cA 0) n1 (fun j => .int (h.2.1 a1 j))).slots.size : Int); rw [arrV_size]; omega)
    (fun vm₁ _ i hi => by
      have e : (vp_cell (cA 0) (n0, .inl (h.2.1 a0))).slots.getD (sp.toNatClampNeg + i) .null = .int (h.2.1 a0 (sp.toNatClampNeg + i)) := by
        show (arrV (cA 0) n0 (fun j => .int (h.2.1 a0 j))).slots.getD _ _ = _
        rw [Array.getD_eq_getD_getElem?, arrV_read _ _ (by omega)]
        rfl
      refine ⟨?_, ?_⟩
      · rw [e]
        rfl
      · rw [e]
        exact trivial)
    (g := F0 m pc lsC (.int n :: .int dp :: .ref (rho b B a1) :: .int sp :: .ref (rho b B a0) :: rest)) rfl (by rw [hml]; exact hsz) (rest := rest) rfl (by rw [hb]; exact hdec) hframes (by show 2 * 0 + _ + (5 + 2 + 11) ≤ _; omega)
  have e2 : copied (vp_cell (cA 0) (n0, .inl (h.2.1 a0))) (vp_cell (cA 0) (n1, .inl (h.2.1 a1))) sp dp n = vp_cell (cA 0) (n1, .inl (va_cpy (h.2.1 a0) (h.2.1 a1) sp.toNatClampNeg dp.toNatClampNeg n.toNatClampNeg)) := va_copied (fun z => .int z) (cA 0) (cA 0) (h.2.1 a0) (h.2.1 a1) h4
  rw [e2] at X' step
  have hl : rho b B a1 < H.size := (Array.getElem?_eq_some_iff.mp hc1).1
  have hheap : ((T.setVm vm').setCell (rho b B a1) (vp_cell (cA 0) (n1, .inl (va_cpy (h.2.1 a0) (h.2.1 a1) sp.toNatClampNeg dp.toNatClampNeg n.toNatClampNeg)))).heap = H.setIfInBounds (rho b B a1) (vp_cell (cA 0) (n1, .inl (va_cpy (h.2.1 a0) (h.2.1 a1) sp.toNatClampNeg dp.toNatClampNeg n.toNatClampNeg))) := by rw [← hT]; rfl
  have oq : ∀ x : Nat, x ≠ rho b B a1 → (H.setIfInBounds (rho b B a1) (vp_cell (cA 0) (n1, .inl (va_cpy (h.2.1 a0) (h.2.1 a1) sp.toNatClampNeg dp.toNatClampNeg n.toNatClampNeg))))[x]? = H[x]? := fun x hx => by simp [Array.getElem?_setIfInBounds, Ne.symm hx]
  obtain ⟨t, b1, b2⟩ := kk _ _ (hH.upd e1 (by simp) (by simp) oq rfl (fun a' q' hne => eOf_wa q' hne) (fun h0 => by funext j; simp [wa, Ne.symm h0]) (by
      show (H.setIfInBounds (rho b B a1) _)[rho b B a1]? = some (vp_cell (cA 0) (n1, .inl ((wa h a1 (va_cpy (h.2.1 a0) (h.2.1 a1) sp.toNatClampNeg dp.toNatClampNeg n.toNatClampNeg)).2.1 a1)))
      have i1 : (wa h a1 (va_cpy (h.2.1 a0) (h.2.1 a1) sp.toNatClampNeg dp.toNatClampNeg n.toNatClampNeg)).2.1 a1 = va_cpy (h.2.1 a0) (h.2.1 a1) sp.toNatClampNeg dp.toNatClampNeg n.toNatClampNeg := by funext j; simp [wa]
      rw [i1]
      simp [Array.getElem?_setIfInBounds, hl])) (fun x hx => by
      rcases List.mem_append.mp hx with h | h
      · exact hlo x h
      · obtain ⟨z, -, hz⟩ := List.mem_map.mp h
        rw [← hz]
        exact hB1) _ hheap X'
  exact ⟨t, step t b1, b2⟩
end CPY
theorem cal_inv {d g g' ee : Nat} {av sr : List Value} {h : AH} {nx : Nat → List Value → AH → Prop} (hc : cal Ev d g g' ee av h sr nx) : wsum sr ≤ 8 ∧ wsum av ≤ ee / 2048 % 16 ∧ ∃ d1, d = d1 + 1 ∧ ∃ g1, (g' ≤ g1 ∧ g1 ≤ g) ∧ Ev d1 g g1 (ee / 32768) 0 (exL av) [] h (match ee % 8 with
      | 0 => asV fun h1 => Ext h h1 → nx g1 sr h1
      | 1 => asI fun x h1 => Ext h h1 → nx g1 (.int x :: sr) h1
      | 2 => asL fun x h1 => Ext h h1 → nx g1 (.long x :: sr) h1
      | _ => asR fun r h1 => Ext h h1 → (r = none → nx g1 (.null :: sr) h1) ∧ (∀ a, r = some a → nx g1 (.ref a :: sr) h1)) := by
  unfold cal at hc
  obtain ⟨h1, h2⟩ := bif_inv hc
  rw [Bool.and_eq_true] at h1
  refine ⟨Nat.le_of_ble_eq_true h1.1, Nat.le_of_ble_eq_true h1.2, ?_⟩
  cases d with
  | zero => exact h2.elim
  | succ d1 => exact ⟨d1, rfl, h2⟩
def AtW (D : va_G) (cA : Nat → ClassId) (cS : ClassId) (b B : Nat) (p : Program) (l : Launch) (e : Env) (R : Room) (s : State) (m : MethodId) (args : Array Value) (below : List Frame) (meth : Method) (c : Code) (Z : State → Prop) (mc ms : Nat) (h0 : AH) (mL g' pc g : Nat) (ls st : List Value) (h : AH) : Prop :=
  ∀ (H : Heap) (locs : List Loc) (cells slots : Nat) (lsC : Array Slot), HR D cA cS b B h H → (∀ x ∈ locs, B ≤ x.base) → Ext h0 h → LR b B lsC mL ls → g' ≤ g → cells + (g - g') ≤ mc → slots + 400 * (g - g') ≤ ms → W p l e R s m args below meth c H locs cells slots Z (F0 m pc lsC (st.map (trV b B)))
def RetK (D : va_G) (cA : Nat → ClassId) (cS : ClassId) (b B : Nat) (p : Program) (l : Launch) (e : Env) (R : Room) (s : State) (m : MethodId) (args : Array Value) (below : List Frame) (meth : Method) (c : Code) (Z : State → Prop) (mc ms : Nat) (h0 : AH) (q : Mt) (Q : PQ) : Prop :=
  ∀ (v : Value) (h1 : AH) (H1 : Heap) (locs1 : List Loc) (pc1 : Nat) (lsC1 : Array Slot), Q v h1 → Ext h0 h1 → HR D cA cS b B h1 H1 → (∀ x ∈ locs1, B ≤ x.base) → vOK q.2.2.2.1 v → decode q.2.1 pc1 = .ok (retI v, 1) → W p l e R s m args below meth c H1 locs1 mc ms Z (F0 m pc1 lsC1 (retS b B v))
theorem blt_lt {a b : Nat} (h : Nat.blt a b = true) : a < b := Nat.le_of_ble_eq_true h
theorem tnn {t : Int} (h : decide (0 ≤ t) = true) : t = (t.toNat : Int) := by
  have := of_decide_eq_true h
  omega
set_option maxRecDepth 10000 in
set_option maxHeartbeats 4000000 in
theorem stp_sound {D : va_G} {cA : Nat → ClassId} {cS : ClassId} {b B : Nat} {p : Program} {l : Launch} {e : Env} {R : Room} {s : State} {m : MethodId} {args : Array Value} {below : List Frame} {meth : Method} {c : Code} {Z : State → Prop} {mc ms : Nat} {h0 : AH} {q : Mt} {d g' : Nat} {Q : PQ} (hCX : CX p s m args meth c q) (hTB : TB D cA cS s) (hfr : d ≤ R.frames) (hlc : 60 * d ≤ R.locals) (hmc : mc ≤ R.cells) (hms : ms ≤ R.slots) (hret : RetK D cA cS b B p l e R s m args below meth c Z mc ms h0 q Q)
    {pc len : Nat} {i i' : Instr} (hdec : decode q.2.1 pc = .ok (i, len)) (hln : len = lnI i len) (hres : resI q.2.2.2.2.1 (iniM q) pc i = some i') (hsto : stoOK q.2.2.1 i' = true) {nx : Nat → List Value → List Value → AH → Prop} {jp : Int → Nat → List Value → List Value → AH → Prop}
    (hnx : ∀ g ls st h, nx g ls st h → AtW D cA cS b B p l e R s m args below meth c Z mc ms h0 q.2.2.1 g' (pc + len) g ls st h) (hjp : ∀ t g ls st h, jp t g ls st h → AtW D cA cS b B p l e R s m args below meth c Z mc ms h0 q.2.2.1 g' t.toNat g ls st h)
    {g : Nat} {ls st : List Value} {h : AH} (hstp : stp Ev d g' q.2.2.2.1 Q nx jp g ls st h i') : AtW D cA cS b B p l e R s m args below meth c Z mc ms h0 q.2.2.1 g' pc g ls st h := by
  intro H locs cells slots lsC hH hlo hx hL hg hc hsl
  have hCX' := hCX
  obtain ⟨hex, hb, hml, hrt, hown, hnm, hlk, hts⟩ := hCX'
  cases i with
  | iload_n k =>
    obtain rfl : len = 1 := hln
    obtain rfl : Instr.iload k.val = i' := Option.some.inj hres
    obtain ⟨x, h1, h2⟩ := lI_inv hstp
    exact lv_iload_n hex hb hdec rfl (hL.get h1 rfl) (hnx _ _ _ _ h2 H locs cells slots lsC hH hlo hx hL hg hc hsl)
  | iload k =>
    obtain rfl : len = 2 := hln
    obtain rfl : Instr.iload k = i' := Option.some.inj hres
    obtain ⟨x, h1, h2⟩ := lI_inv hstp
    exact lv_iload hex hb hdec (hL.get h1 rfl) (hnx _ _ _ _ h2 H locs cells slots lsC hH hlo hx hL hg hc hsl)
  | lload_n k =>
    obtain rfl : len = 1 := hln
    obtain rfl : Instr.lload k.val = i' := Option.some.inj hres
    obtain ⟨x, h1, h2⟩ := lJ_inv hstp
    exact lv_lload_n hex hb hdec rfl (hL.get h1 rfl) (hnx _ _ _ _ h2 H locs cells slots lsC hH hlo hx hL hg hc hsl)
  | lload k =>
    obtain rfl : len = 2 := hln
    obtain rfl : Instr.lload k = i' := Option.some.inj hres
    obtain ⟨x, h1, h2⟩ := lJ_inv hstp
    exact lv_lload hex hb hdec (hL.get h1 rfl) (hnx _ _ _ _ h2 H locs cells slots lsC hH hlo hx hL hg hc hsl)
  | aload_n k =>
    obtain rfl : len = 1 := hln
    obtain rfl : Instr.aload k.val = i' := Option.some.inj hres
    have h9 : lA (gL ls k.val) (fun v => nx g ls (v :: st) h) := hstp
    rcases lA_inv h9 with ⟨x, h1, h2⟩ | ⟨h1, h2⟩
    · exact lv_aload_n hex hb hdec rfl (hL.get h1 rfl) (hnx _ _ _ _ h2 H locs cells slots lsC hH hlo hx hL hg hc hsl)
    · exact lv_aload_nN hex hb hdec rfl (hL.get h1 rfl) (hnx _ _ _ _ h2 H locs cells slots lsC hH hlo hx hL hg hc hsl)
  | aload k =>
    obtain rfl : len = 2 := hln
    obtain rfl : Instr.aload k = i' := Option.some.inj hres
    have h9 : lA (gL ls k) (fun v => nx g ls (v :: st) h) := hstp
    rcases lA_inv h9 with ⟨x, h1, h2⟩ | ⟨h1, h2⟩
    · exact lv_aload hex hb hdec (hL.get h1 rfl) (hnx _ _ _ _ h2 H locs cells slots lsC hH hlo hx hL hg hc hsl)
    · exact lv_aloadN hex hb hdec (hL.get h1 rfl) (hnx _ _ _ _ h2 H locs cells slots lsC hH hlo hx hL hg hc hsl)
  | istore_n k =>
    obtain rfl : len = 1 := hln
    obtain rfl : Instr.istore k.val = i' := Option.some.inj hres
    obtain ⟨x, s1, rfl, h1⟩ := pI_inv hstp
    exact lv_istore_n hex hb hdec rfl hL (blt_lt hsto) rfl fun ls' hl' => hnx _ _ _ _ h1 H locs cells slots ls' hH hlo hx (LR.st1 hl') hg hc hsl
  | istore k =>
    obtain rfl : len = 2 := hln
    obtain rfl : Instr.istore k = i' := Option.some.inj hres
    obtain ⟨x, s1, rfl, h1⟩ := pI_inv hstp
    exact lv_istore hex hb hdec hL (blt_lt hsto) rfl fun ls' hl' => hnx _ _ _ _ h1 H locs cells slots ls' hH hlo hx (LR.st1 hl') hg hc hsl
  | lstore_n k =>
    obtain rfl : len = 1 := hln
    obtain rfl : Instr.lstore k.val = i' := Option.some.inj hres
    obtain ⟨x, s1, rfl, h1⟩ := pJ_inv hstp
    exact lv_lstore_n hex hb hdec rfl hL (blt_lt hsto) rfl fun ls' hl' => hnx _ _ _ _ h1 H locs cells slots ls' hH hlo hx (LR.st2 hl') hg hc hsl
  | lstore k =>
    obtain rfl : len = 2 := hln
    obtain rfl : Instr.lstore k = i' := Option.some.inj hres
    obtain ⟨x, s1, rfl, h1⟩ := pJ_inv hstp
    exact lv_lstore hex hb hdec hL (blt_lt hsto) rfl fun ls' hl' => hnx _ _ _ _ h1 H locs cells slots ls' hH hlo hx (LR.st2 hl') hg hc hsl
  | astore_n k =>
    obtain rfl : len = 1 := hln
    obtain rfl : Instr.astore k.val = i' := Option.some.inj hres
    obtain ⟨v, s1, rfl, h1⟩ := pV_inv hstp
    rcases lA_inv h1 with ⟨x, rfl, h2⟩ | ⟨rfl, h2⟩
    · exact lv_astore_n hex hb hdec rfl hL (blt_lt hsto) rfl fun ls' hl' => hnx _ _ _ _ h2 H locs cells slots ls' hH hlo hx (LR.st1 (v := .ref x) hl') hg hc hsl
    · exact lv_astore_nN hex hb hdec rfl hL (blt_lt hsto) rfl fun ls' hl' => hnx _ _ _ _ h2 H locs cells slots ls' hH hlo hx (LR.st1 (v := .null) hl') hg hc hsl
  | astore k =>
    obtain rfl : len = 2 := hln
    obtain rfl : Instr.astore k = i' := Option.some.inj hres
    obtain ⟨v, s1, rfl, h1⟩ := pV_inv hstp
    rcases lA_inv h1 with ⟨x, rfl, h2⟩ | ⟨rfl, h2⟩
    · exact lv_astore hex hb hdec hL (blt_lt hsto) rfl fun ls' hl' => hnx _ _ _ _ h2 H locs cells slots ls' hH hlo hx (LR.st1 (v := .ref x) hl') hg hc hsl
    · exact lv_astoreN hex hb hdec hL (blt_lt hsto) rfl fun ls' hl' => hnx _ _ _ _ h2 H locs cells slots ls' hH hlo hx (LR.st1 (v := .null) hl') hg hc hsl
  | iinc k n =>
    obtain rfl : len = 3 := hln
    obtain rfl : Instr.iinc k n = i' := Option.some.inj hres
    obtain ⟨x, h1, h2⟩ := lI_inv hstp
    have hm : (k, Value.int x) ∈ enL b B 0 ls := (enL_mem ls 0).mpr ⟨k, .int x, by have := gL_get ls k (by rw [h1]; rfl); rw [h1] at this; exact this, rfl, by omega, rfl⟩
    obtain ⟨j, hj⟩ := List.getElem?_of_mem hm
    exact lv_iinc hex hb hdec hL hj (by rw [cI_eq]) (blt_lt hsto) rfl fun ls' hl' => hnx _ _ _ _ h2 H locs cells slots ls' hH hlo hx (LR.st1 (v := .int (x + cI n)) hl') hg hc hsl
  | iconst n =>
    obtain rfl : len = 1 := hln
    obtain rfl : Instr.iconst n = i' := Option.some.inj hres
    exact lv_iconst hex hb hdec (cI_eq n) (hnx _ _ _ _ hstp H locs cells slots lsC hH hlo hx hL hg hc hsl)
  | bipush n =>
    obtain rfl : len = 2 := hln
    have hr : (if (Int8.ofInt n).toInt32 = Int32.ofInt n then some (Instr.iconst n) else none) = some i' := hres
    split at hr
    · rename_i hcd
      obtain rfl := Option.some.inj hr
      exact lv_bipush hex hb hdec (hcd.trans (cI_eq n)) (hnx _ _ _ _ hstp H locs cells slots lsC hH hlo hx hL hg hc hsl)
    · cases hr
  | sipush n =>
    obtain rfl : len = 3 := hln
    have hr : (if (Int16.ofInt n).toInt32 = Int32.ofInt n then some (Instr.iconst n) else none) = some i' := hres
    split at hr
    · rename_i hcd
      obtain rfl := Option.some.inj hr
      exact lv_sipush hex hb hdec (hcd.trans (cI_eq n)) (hnx _ _ _ _ hstp H locs cells slots lsC hH hlo hx hL hg hc hsl)
    · cases hr
  | ldc_w k =>
    obtain rfl : len = 3 := hln
    cases hk : lk cstT q.2.2.2.2.1 k with
    | none => simp [resI, hk] at hres
    | some n =>
      obtain rfl : Instr.iconst n = i' := by simpa [resI, hk] using hres
      exact lv_ldcw hex hb hown (hts _ (gw_in (wd_cst _ (lk_mem hk)) rfl)) hdec (hnx _ _ _ _ hstp H locs cells slots lsC hH hlo hx hL hg hc hsl)
  | ldc2_w k =>
    obtain rfl : len = 3 := hln
    cases hk : lk csLT q.2.2.2.2.1 k with
    | none => simp [resI, hk] at hres
    | some n =>
      obtain rfl : Instr.sipush n = i' := by simpa [resI, hk] using hres
      exact lv_ldc2 hex hb hown (hts _ (gw_in (wd_csl _ (lk_mem hk)) rfl)) hdec (hnx _ _ _ _ hstp H locs cells slots lsC hH hlo hx hL hg hc hsl)
  | lconst n =>
    obtain rfl : len = 1 := hln
    obtain rfl : Instr.sipush (.ofNat n.val) = i' := Option.some.inj hres
    exact lv_lconst hex hb hdec (cL_nat n.val) (hnx _ _ _ _ hstp H locs cells slots lsC hH hlo hx hL hg hc hsl)
  | aconst_null =>
    obtain rfl : len = 1 := hln
    obtain rfl : Instr.aconst_null = i' := Option.some.inj hres
    exact lv_null hex hb hdec (hnx _ _ _ _ hstp H locs cells slots lsC hH hlo hx hL hg hc hsl)
  | dup =>
    obtain rfl : len = 1 := hln
    obtain rfl : Instr.dup = i' := Option.some.inj hres
    obtain ⟨v, s1, rfl, h1⟩ := pV_inv hstp
    obtain ⟨h2, h3⟩ := bif_inv h1
    exact lv_dup hex hb hdec ((trV_cat b B v).trans (Nat.eq_of_beq_eq_true h2)) (hnx _ _ _ _ h3 H locs cells slots lsC hH hlo hx hL hg hc hsl)
  | pop =>
    obtain rfl : len = 1 := hln
    obtain rfl : Instr.pop = i' := Option.some.inj hres
    obtain ⟨v, s1, rfl, h1⟩ := pV_inv hstp
    obtain ⟨h2, h3⟩ := bif_inv h1
    exact lv_pop hex hb hdec ((trV_cat b B v).trans (Nat.eq_of_beq_eq_true h2)) (hnx _ _ _ _ h3 H locs cells slots lsC hH hlo hx hL hg hc hsl)
  | dup2 =>
    obtain rfl : len = 1 := hln
    obtain rfl : Instr.dup2 = i' := Option.some.inj hres
    obtain ⟨v, s1, rfl, h1⟩ := pV_inv hstp
    obtain ⟨w, s2, rfl, h1⟩ := pV_inv h1
    obtain ⟨h2, h3⟩ := bif_inv h1
    rw [Bool.and_eq_true] at h2
    exact lv_dup2_11 hex hb hdec ((trV_cat b B v).trans (Nat.eq_of_beq_eq_true h2.1)) ((trV_cat b B w).trans (Nat.eq_of_beq_eq_true h2.2)) (hnx _ _ _ _ h3 H locs cells slots lsC hH hlo hx hL hg hc hsl)
  | iadd =>
    obtain rfl : len = 1 := hln
    obtain rfl : Instr.iadd = i' := Option.some.inj hres
    obtain ⟨y, s1, rfl, h1⟩ := pI_inv hstp
    obtain ⟨x, s2, rfl, h2⟩ := pI_inv h1
    exact lv_iadd hex hb hdec (hnx _ _ _ _ h2 H locs cells slots lsC hH hlo hx hL hg hc hsl)
  | isub =>
    obtain rfl : len = 1 := hln
    obtain rfl : Instr.isub = i' := Option.some.inj hres
    obtain ⟨y, s1, rfl, h1⟩ := pI_inv hstp
    obtain ⟨x, s2, rfl, h2⟩ := pI_inv h1
    exact lv_isub hex hb hdec (hnx _ _ _ _ h2 H locs cells slots lsC hH hlo hx hL hg hc hsl)
  | imul =>
    obtain rfl : len = 1 := hln
    obtain rfl : Instr.imul = i' := Option.some.inj hres
    obtain ⟨y, s1, rfl, h1⟩ := pI_inv hstp
    obtain ⟨x, s2, rfl, h2⟩ := pI_inv h1
    exact lv_imul hex hb hdec (hnx _ _ _ _ h2 H locs cells slots lsC hH hlo hx hL hg hc hsl)
  | iand =>
    obtain rfl : len = 1 := hln
    obtain rfl : Instr.iand = i' := Option.some.inj hres
    obtain ⟨y, s1, rfl, h1⟩ := pI_inv hstp
    obtain ⟨x, s2, rfl, h2⟩ := pI_inv h1
    exact lv_iand hex hb hdec (hnx _ _ _ _ h2 H locs cells slots lsC hH hlo hx hL hg hc hsl)
  | ior =>
    obtain rfl : len = 1 := hln
    obtain rfl : Instr.ior = i' := Option.some.inj hres
    obtain ⟨y, s1, rfl, h1⟩ := pI_inv hstp
    obtain ⟨x, s2, rfl, h2⟩ := pI_inv h1
    exact lv_ior hex hb hdec (hnx _ _ _ _ h2 H locs cells slots lsC hH hlo hx hL hg hc hsl)
  | ixor =>
    obtain rfl : len = 1 := hln
    obtain rfl : Instr.ixor = i' := Option.some.inj hres
    obtain ⟨y, s1, rfl, h1⟩ := pI_inv hstp
    obtain ⟨x, s2, rfl, h2⟩ := pI_inv h1
    exact lv_ixor hex hb hdec (hnx _ _ _ _ h2 H locs cells slots lsC hH hlo hx hL hg hc hsl)
  | ishl =>
    obtain rfl : len = 1 := hln
    obtain rfl : Instr.ishl = i' := Option.some.inj hres
    obtain ⟨y, s1, rfl, h1⟩ := pI_inv hstp
    obtain ⟨x, s2, rfl, h2⟩ := pI_inv h1
    exact lv_ishl hex hb hdec (hnx _ _ _ _ h2 H locs cells slots lsC hH hlo hx hL hg hc hsl)
  | ishr =>
    obtain rfl : len = 1 := hln
    obtain rfl : Instr.ishr = i' := Option.some.inj hres
    obtain ⟨y, s1, rfl, h1⟩ := pI_inv hstp
    obtain ⟨x, s2, rfl, h2⟩ := pI_inv h1
    exact lv_ishr hex hb hdec (hnx _ _ _ _ h2 H locs cells slots lsC hH hlo hx hL hg hc hsl)
  | iushr =>
    obtain rfl : len = 1 := hln
    obtain rfl : Instr.iushr = i' := Option.some.inj hres
    obtain ⟨y, s1, rfl, h1⟩ := pI_inv hstp
    obtain ⟨x, s2, rfl, h2⟩ := pI_inv h1
    exact lv_iushr hex hb hdec rfl (hnx _ _ _ _ h2 H locs cells slots lsC hH hlo hx hL hg hc hsl)
  | idiv =>
    obtain rfl : len = 1 := hln
    obtain rfl : Instr.idiv = i' := Option.some.inj hres
    obtain ⟨y, s1, rfl, h1⟩ := pI_inv hstp
    obtain ⟨x, s2, rfl, h2, h3⟩ := pI_inv h1
    exact lv_idiv hex hb hdec h2 (hnx _ _ _ _ h3 H locs cells slots lsC hH hlo hx hL hg hc hsl)
  | irem =>
    obtain rfl : len = 1 := hln
    obtain rfl : Instr.irem = i' := Option.some.inj hres
    obtain ⟨y, s1, rfl, h1⟩ := pI_inv hstp
    obtain ⟨x, s2, rfl, h2, h3⟩ := pI_inv h1
    exact lv_irem hex hb hdec h2 (hnx _ _ _ _ h3 H locs cells slots lsC hH hlo hx hL hg hc hsl)
  | ladd =>
    obtain rfl : len = 1 := hln
    obtain rfl : Instr.ladd = i' := Option.some.inj hres
    obtain ⟨y, s1, rfl, h1⟩ := pJ_inv hstp
    obtain ⟨x, s2, rfl, h2⟩ := pJ_inv h1
    exact lv_ladd hex hb hdec (hnx _ _ _ _ h2 H locs cells slots lsC hH hlo hx hL hg hc hsl)
  | lcmp =>
    obtain rfl : len = 1 := hln
    obtain rfl : Instr.lcmp = i' := Option.some.inj hres
    obtain ⟨y, s1, rfl, h1⟩ := pJ_inv hstp
    obtain ⟨x, s2, rfl, h2⟩ := pJ_inv h1
    exact W.lcmp hex hb hdec (hnx _ _ _ _ h2 H locs cells slots lsC hH hlo hx hL hg hc hsl)
  | i2l =>
    obtain rfl : len = 1 := hln
    obtain rfl : Instr.i2l = i' := Option.some.inj hres
    obtain ⟨x, s1, rfl, h1⟩ := pI_inv hstp
    exact lv_i2l hex hb hdec rfl (hnx _ _ _ _ h1 H locs cells slots lsC hH hlo hx hL hg hc hsl)
  | i2b =>
    obtain rfl : len = 1 := hln
    obtain rfl : Instr.i2b = i' := Option.some.inj hres
    obtain ⟨x, s1, rfl, h1⟩ := pI_inv hstp
    exact lv_i2b hex hb hdec rfl (hnx _ _ _ _ h1 H locs cells slots lsC hH hlo hx hL hg hc hsl)
  | i2s =>
    obtain rfl : len = 1 := hln
    obtain rfl : Instr.i2s = i' := Option.some.inj hres
    obtain ⟨x, s1, rfl, h1⟩ := pI_inv hstp
    exact lv_i2s hex hb hdec rfl (hnx _ _ _ _ h1 H locs cells slots lsC hH hlo hx hL hg hc hsl)
  | goto t =>
    obtain rfl : len = 3 := hln
    obtain rfl : Instr.goto (pc + t) = i' := Option.some.inj hres
    exact lv_goto hex hb hdec (tnn hsto) (hjp _ _ _ _ _ hstp H locs cells slots lsC hH hlo hx hL hg hc hsl)
  | if_icmp c1 t =>
    obtain rfl : len = 3 := hln
    obtain rfl : Instr.if_icmp c1 (pc + t) = i' := Option.some.inj hres
    obtain ⟨y, s1, rfl, h1⟩ := pI_inv hstp
    obtain ⟨x, s2, rfl, h2⟩ := pI_inv h1
    cases c1
    · exact lv_icmp_eq hex hb hdec (tnn hsto) (fun e => hjp _ _ _ _ _ (h2.1 e) H locs cells slots lsC hH hlo hx hL hg hc hsl) (fun e => hnx _ _ _ _ (h2.2 e) H locs cells slots lsC hH hlo hx hL hg hc hsl)
    · exact lv_icmp_ne hex hb hdec (tnn hsto) (fun e => hjp _ _ _ _ _ (h2.1 e) H locs cells slots lsC hH hlo hx hL hg hc hsl) (fun e => hnx _ _ _ _ (h2.2 e) H locs cells slots lsC hH hlo hx hL hg hc hsl)
    · exact lv_icmp_lt hex hb hdec (tnn hsto) (fun e => hjp _ _ _ _ _ (h2.1 e) H locs cells slots lsC hH hlo hx hL hg hc hsl) (fun e => hnx _ _ _ _ (h2.2 e) H locs cells slots lsC hH hlo hx hL hg hc hsl)
    · exact lv_icmp_ge hex hb hdec (tnn hsto) (fun e => hjp _ _ _ _ _ (h2.1 e) H locs cells slots lsC hH hlo hx hL hg hc hsl) (fun e => hnx _ _ _ _ (h2.2 e) H locs cells slots lsC hH hlo hx hL hg hc hsl)
    · exact lv_icmp_gt hex hb hdec (tnn hsto) (fun e => hjp _ _ _ _ _ (h2.1 e) H locs cells slots lsC hH hlo hx hL hg hc hsl) (fun e => hnx _ _ _ _ (h2.2 e) H locs cells slots lsC hH hlo hx hL hg hc hsl)
    · exact lv_icmp_le hex hb hdec (tnn hsto) (fun e => hjp _ _ _ _ _ (h2.1 e) H locs cells slots lsC hH hlo hx hL hg hc hsl) (fun e => hnx _ _ _ _ (h2.2 e) H locs cells slots lsC hH hlo hx hL hg hc hsl)
  | ifCond c1 t =>
    obtain rfl : len = 3 := hln
    obtain rfl : Instr.ifCond c1 (pc + t) = i' := Option.some.inj hres
    obtain ⟨x, s1, rfl, h2⟩ := pI_inv hstp
    cases c1
    · exact lv_if_eq hex hb hdec (tnn hsto) (fun e => hjp _ _ _ _ _ (h2.1 e) H locs cells slots lsC hH hlo hx hL hg hc hsl) (fun e => hnx _ _ _ _ (h2.2 e) H locs cells slots lsC hH hlo hx hL hg hc hsl)
    · exact lv_if_ne hex hb hdec (tnn hsto) (fun e => hjp _ _ _ _ _ (h2.1 e) H locs cells slots lsC hH hlo hx hL hg hc hsl) (fun e => hnx _ _ _ _ (h2.2 e) H locs cells slots lsC hH hlo hx hL hg hc hsl)
    · exact lv_if_lt hex hb hdec (tnn hsto) (fun e => hjp _ _ _ _ _ (h2.1 e) H locs cells slots lsC hH hlo hx hL hg hc hsl) (fun e => hnx _ _ _ _ (h2.2 e) H locs cells slots lsC hH hlo hx hL hg hc hsl)
    · exact lv_if_ge hex hb hdec (tnn hsto) (fun e => hjp _ _ _ _ _ (h2.1 e) H locs cells slots lsC hH hlo hx hL hg hc hsl) (fun e => hnx _ _ _ _ (h2.2 e) H locs cells slots lsC hH hlo hx hL hg hc hsl)
    · exact lv_if_gt hex hb hdec (tnn hsto) (fun e => hjp _ _ _ _ _ (h2.1 e) H locs cells slots lsC hH hlo hx hL hg hc hsl) (fun e => hnx _ _ _ _ (h2.2 e) H locs cells slots lsC hH hlo hx hL hg hc hsl)
    · exact lv_if_le hex hb hdec (tnn hsto) (fun e => hjp _ _ _ _ _ (h2.1 e) H locs cells slots lsC hH hlo hx hL hg hc hsl) (fun e => hnx _ _ _ _ (h2.2 e) H locs cells slots lsC hH hlo hx hL hg hc hsl)
  | ifnull t =>
    obtain rfl : len = 3 := hln
    obtain rfl : Instr.ifnull (pc + t) = i' := Option.some.inj hres
    obtain ⟨v, s1, rfl, h1⟩ := pV_inv hstp
    cases v <;> first | exact h1.elim | exact lv_ifnullN hex hb hdec (tnn hsto) (hjp _ _ _ _ _ h1 H locs cells slots lsC hH hlo hx hL hg hc hsl) | exact lv_ifnull hex hb hdec (hnx _ _ _ _ h1 H locs cells slots lsC hH hlo hx hL hg hc hsl)
  | ifnonnull t =>
    obtain rfl : len = 3 := hln
    obtain rfl : Instr.ifnonnull (pc + t) = i' := Option.some.inj hres
    obtain ⟨v, s1, rfl, h1⟩ := pV_inv hstp
    cases v <;> first | exact h1.elim | exact lv_ifnonnullN hex hb hdec (hnx _ _ _ _ h1 H locs cells slots lsC hH hlo hx hL hg hc hsl) | exact lv_ifnonnull hex hb hdec (tnn hsto) (hjp _ _ _ _ _ h1 H locs cells slots lsC hH hlo hx hL hg hc hsl)
  | tableswitch dt lo hi offs =>
    have hr : (if lo + offs.size = hi + 1 ∧ -2147483648 ≤ lo ∧ hi < 2147483648 then some (Instr.tableswitch (pc + dt) lo hi (offs.map fun o => pc + o)) else none) = some i' := hres
    split at hr
    · rename_i hcd
      obtain rfl := Option.some.inj hr
      obtain ⟨x, s1, rfl, h1, h2⟩ := pI_inv hstp
      have hsto : (decide (0 ≤ (pc : Int) + dt) && (offs.map fun o => (pc : Int) + o).toList.all fun t => decide (0 ≤ t)) = true := hsto
      rw [Bool.and_eq_true] at hsto
      by_cases ho : x.toInt < lo ∨ hi < x.toInt
      · exact lv_tableOut hex hb hdec ho (tnn hsto.1) (hjp _ _ _ _ _ (h2 ho) H locs cells slots lsC hH hlo hx hL hg hc hsl)
      · have ho1 : ¬ x.toInt < lo := fun z => ho (Or.inl z)
        have ho2 : ¬ hi < x.toInt := fun z => ho (Or.inr z)
        have hlt : (x.toInt - lo).toNat < offs.size := by omega
        obtain ⟨off, hoff⟩ : ∃ off, offs[(x.toInt - lo).toNat]? = some off := ⟨offs[(x.toInt - lo).toNat], Array.getElem?_eq_getElem hlt⟩
        have hof2 : (offs.map fun o => (pc : Int) + o).toList[(x.toInt - lo).toNat]? = some (pc + off) := by
          rw [Array.getElem?_toList, Array.getElem?_map, hoff]
          rfl
        have hK := swT_get _ _ _ _ h1 hof2 (by rw [← cI_eq, show lo + ((x.toInt - lo).toNat : Int) = x.toInt by omega, Int32.ofInt_toInt])
        have hnn := List.all_eq_true.mp hsto.2 _ (List.mem_of_getElem? hof2)
        exact lv_tableIn hex hb hdec ho1 ho2 hoff (tnn hnn) (hjp _ _ _ _ _ hK H locs cells slots lsC hH hlo hx hL hg hc hsl)
    · cases hr
  | lookupswitch dt ps =>
    have hr : (if (ps.toList.zip (ps.toList.drop 1)).all (fun (a, next) => a.1 < next.1) = true ∧ ps.toList.all (fun q => -2147483648 ≤ q.1 && q.1 < 2147483648) = true then some (Instr.lookupswitch (pc + dt) (ps.map fun q => (q.1, pc + q.2))) else none) = some i' := hres
    split at hr
    · rename_i hcd
      obtain rfl := Option.some.inj hr
      obtain ⟨x, s1, rfl, h1⟩ := pI_inv hstp
      have hsto : (decide (0 ≤ (pc : Int) + dt) && (ps.map fun q => (q.1, (pc : Int) + q.2)).toList.all fun t => decide (0 ≤ t.2)) = true := hsto
      rw [Bool.and_eq_true] at hsto
      rw [Array.toList_map] at h1 hsto
      have hK := lsw_get ps.toList (fun q hq => by
        have := List.all_eq_true.mp hcd.2 q hq
        simpa using this) h1
      have hnn : (0 : Int) ≤ pc + Op.lookupswitch.offset ps.toList dt x.toInt := by
        have h3 := of_decide_eq_true hsto.1
        have h4 : ∀ q ∈ ps.toList, (0 : Int) ≤ pc + q.2 := fun q hq => of_decide_eq_true (List.all_eq_true.mp hsto.2 _ (List.mem_map.mpr ⟨q, hq, rfl⟩))
        revert h4
        generalize ps.toList = L
        intro h4
        induction L with
        | nil => exact h3
        | cons z L ih =>
          obtain ⟨a, o⟩ := z
          rw [Op.lookupswitch.offset_cons]
          split
          · exact h4 (a, o) List.mem_cons_self
          · exact ih fun q hq => h4 q (List.mem_cons_of_mem _ hq)
      exact lv_lookup hex hb hdec hcd.1 rfl (by omega) (hjp _ _ _ _ _ hK H locs cells slots lsC hH hlo hx hL hg hc hsl)
    · cases hr
  | getfield k =>
    obtain rfl : len = 3 := hln
    cases hk : lk fldT q.2.2.2.2.1 k with
    | none => simp [resI, hk] at hres
    | some r =>
      obtain rfl : Instr.getfield r = i' := by simpa [resI, hk] using hres
      obtain ⟨a, s1, rfl, h1, h2⟩ := pR_inv hstp
      obtain ⟨C, T, N, -, -, -, -, -, -, -, hty⟩ := fld_ok (lk_mem hk)
      have hkind : isRefT (tyA (r / 256) (r / 4 % 64)) = fRef (r % 4) := by
        rcases hty with ⟨t1, t2⟩ | ⟨t1, t2⟩ | ⟨t1, t2⟩ <;> rw [t1, t2] <;> rfl
      cases hf : fRef (r % 4) with
      | true =>
        rw [hf] at h2 hkind
        obtain ⟨j, h3, h4⟩ := h2
        have h3 : h.2.2.2 a (r / 4 % 64) = some j := h3
        exact sd_get hCX hTB hdec hk hH h1 (v := .ref (rho b B j)) (by unfold fvl; rw [hkind, h3]; rfl) (hnx _ _ _ _ h4 H locs cells slots lsC hH hlo hx hL hg hc hsl)
      | false =>
        rw [hf] at h2 hkind
        exact sd_get hCX hTB hdec hk hH h1 (v := .int (mi h a (r / 4 % 64))) (by unfold fvl; rw [hkind]; rfl) (hnx _ _ _ _ h2 H locs cells slots lsC hH hlo hx hL hg hc hsl)
  | putfield k =>
    obtain rfl : len = 3 := hln
    cases hk : lk fldT q.2.2.2.2.1 k with
    | none => simp [resI, hk] at hres
    | some r =>
      have hr : (bif finF r && !(iniM q && Nat.beq q.2.2.2.2.1 (r / 256)) then none else some (Instr.putfield r)) = some i' := by simpa [resI, hk] using hres
      cases hfin : (finF r && !(iniM q && Nat.beq q.2.2.2.2.1 (r / 256))) with
      | true => rw [hfin] at hr; cases hr
      | false =>
        rw [hfin] at hr
        obtain rfl := Option.some.inj hr
        obtain ⟨C, T, N, hcl, hkN, hN, -, -, -, -, hty⟩ := fld_ok (lk_mem hk)
        have hkl : r / 4 % 64 < lenOf (r / 256) := by rw [← hN]; exact hkN
        have hBa : ∀ a, hs h a = some (10 + r / 256, lenOf (r / 256)) → B ≤ rho b B a := fun a h1 => (hH.at h1 (by simp; omega)).2
        rcases hty with ⟨t1, t2⟩ | ⟨t1, t2⟩ | ⟨t1, t2⟩
        · have hstp : (match r % 4 with
            | 0 => pI st fun x s => pR s fun a s => hs h a = some (10 + r / 256, lenOf (r / 256)) ∧ nx g ls s (wi h a (r / 4 % 64) x)
            | 1 => pR st fun j s => pR s fun a s => hs h a = some (10 + r / 256, lenOf (r / 256)) ∧ mr h a (r / 4 % 64) = none ∧ nx g ls s (wr h a (r / 4 % 64) j)
            | _ => pI st fun x s => pR s fun a s => hs h a = some (10 + r / 256, lenOf (r / 256)) ∧ isB x = true ∧ nx g ls s (wi h a (r / 4 % 64) x)) := hstp
          rw [t2] at hstp
          obtain ⟨x, s1, rfl, h1⟩ := pI_inv hstp
          obtain ⟨a, s2, rfl, h1, h2⟩ := pR_inv h1
          exact sd_put hCX hTB hdec hk hfin hH h1 (by rw [t1]; rfl) (by rw [t1]; rfl) fun H1 locs1 z oo hl1 hat => hnx _ _ _ _ h2 H1 locs1 cells slots lsC (hr_puti hH hkl (by rw [t1]; rfl) h1 z oo hat) (loc_ok hlo hl1 (hBa a h1)) (hx.trans (ext_wi _ _ _ _)) hL hg hc hsl
        · have hstp : (match r % 4 with
            | 0 => pI st fun x s => pR s fun a s => hs h a = some (10 + r / 256, lenOf (r / 256)) ∧ nx g ls s (wi h a (r / 4 % 64) x)
            | 1 => pR st fun j s => pR s fun a s => hs h a = some (10 + r / 256, lenOf (r / 256)) ∧ mr h a (r / 4 % 64) = none ∧ nx g ls s (wr h a (r / 4 % 64) j)
            | _ => pI st fun x s => pR s fun a s => hs h a = some (10 + r / 256, lenOf (r / 256)) ∧ isB x = true ∧ nx g ls s (wi h a (r / 4 % 64) x)) := hstp
          rw [t2] at hstp
          obtain ⟨j, s1, rfl, h1⟩ := pR_inv hstp
          obtain ⟨a, s2, rfl, h1, h2, h3⟩ := pR_inv h1
          exact sd_put hCX hTB hdec hk hfin hH h1 (by generalize tyA (r / 256) (r / 4 % 64) = ty at t1; cases ty <;> first | rfl | cases t1) (by generalize tyA (r / 256) (r / 4 % 64) = ty at t1; cases ty <;> first | rfl | cases t1) fun H1 locs1 z oo hl1 hat => hnx _ _ _ _ h3 H1 locs1 cells slots lsC (hr_putr hH hkl t1 h1 z oo hat) (loc_ok hlo hl1 (hBa a h1)) (hx.trans (ext_wr _ h2)) hL hg hc hsl
        · have hstp : (match r % 4 with
            | 0 => pI st fun x s => pR s fun a s => hs h a = some (10 + r / 256, lenOf (r / 256)) ∧ nx g ls s (wi h a (r / 4 % 64) x)
            | 1 => pR st fun j s => pR s fun a s => hs h a = some (10 + r / 256, lenOf (r / 256)) ∧ mr h a (r / 4 % 64) = none ∧ nx g ls s (wr h a (r / 4 % 64) j)
            | _ => pI st fun x s => pR s fun a s => hs h a = some (10 + r / 256, lenOf (r / 256)) ∧ isB x = true ∧ nx g ls s (wi h a (r / 4 % 64) x)) := hstp
          rw [t2] at hstp
          obtain ⟨x, s1, rfl, h1⟩ := pI_inv hstp
          obtain ⟨a, s2, rfl, h1, h3, h2⟩ := pR_inv h1
          have hb01 : x = 0 ∨ x = 1 := by
            unfold isB at h3
            rw [Bool.or_eq_true] at h3
            exact h3.imp eq_of_beq eq_of_beq
          exact sd_put hCX hTB hdec hk hfin hH h1 (by rw [t1]; rcases hb01 with rfl | rfl <;> rfl) (by rw [t1]; rcases hb01 with rfl | rfl <;> rfl) fun H1 locs1 z oo hl1 hat => hnx _ _ _ _ h2 H1 locs1 cells slots lsC (hr_puti hH hkl (by rw [t1]; rfl) h1 z oo hat) (loc_ok hlo hl1 (hBa a h1)) (hx.trans (ext_wi _ _ _ _)) hL hg hc hsl
  | iaload =>
    obtain rfl : len = 1 := hln
    obtain rfl : Instr.iaload = i' := Option.some.inj hres
    obtain ⟨j, s1, rfl, h1⟩ := pI_inv hstp
    obtain ⟨a, s2, rfl, ⟨t, n, h1, h2, h3⟩, h4⟩ := pR_inv h1
    exact sd_iald hCX hTB hdec hH h1 h2 h3 (hnx _ _ _ _ h4 H locs cells slots lsC hH hlo hx hL hg hc hsl)
  | iastore =>
    obtain rfl : len = 1 := hln
    obtain rfl : Instr.iastore = i' := Option.some.inj hres
    obtain ⟨x, s1, rfl, h1⟩ := pI_inv hstp
    obtain ⟨j, s2, rfl, h1⟩ := pI_inv h1
    obtain ⟨a, s3, rfl, ⟨n, h1, h2⟩, h4⟩ := pR_inv h1
    exact sd_iast hCX hTB hdec hH hlo h1 h2 fun H1 locs1 hH1 hl1 => hnx _ _ _ _ h4 H1 locs1 cells slots lsC hH1 hl1 (hx.trans (ext_wi _ _ _ _)) hL hg hc hsl
  | laload =>
    obtain rfl : len = 1 := hln
    obtain rfl : Instr.laload = i' := Option.some.inj hres
    obtain ⟨j, s1, rfl, h1⟩ := pI_inv hstp
    obtain ⟨a, s2, rfl, ⟨n, h1, h2⟩, h4⟩ := pR_inv h1
    exact va_lald hex hb hTB.1 (hH.P h1 (by simp) rfl) 0 1 rfl rfl h2 hdec (hnx _ _ _ _ h4 H locs cells slots lsC hH hlo hx hL hg hc hsl)
  | lastore =>
    obtain rfl : len = 1 := hln
    obtain rfl : Instr.lastore = i' := Option.some.inj hres
    obtain ⟨x, s1, rfl, h1⟩ := pJ_inv hstp
    obtain ⟨j, s2, rfl, h1⟩ := pI_inv h1
    obtain ⟨a, s3, rfl, ⟨n, h1, h2⟩, h4⟩ := pR_inv h1
    exact sd_last hCX hTB hdec hH hlo h1 h2 fun H1 locs1 hH1 hl1 => hnx _ _ _ _ h4 H1 locs1 cells slots lsC hH1 hl1 (hx.trans (ext_wl _ _ _ _)) hL hg hc hsl
  | baload =>
    obtain rfl : len = 1 := hln
    obtain rfl : Instr.baload = i' := Option.some.inj hres
    obtain ⟨j, s1, rfl, h1⟩ := pI_inv hstp
    obtain ⟨a, s2, rfl, ⟨n, h1, h2⟩, h4⟩ := pR_inv h1
    exact va_zald hex hb hTB.1 (hH.P h1 (by simp) rfl) 0 2 rfl rfl h2 hdec (hnx _ _ _ _ h4 H locs cells slots lsC hH hlo hx hL hg hc hsl)
  | bastore =>
    obtain rfl : len = 1 := hln
    obtain rfl : Instr.bastore = i' := Option.some.inj hres
    obtain ⟨x, s1, rfl, h1⟩ := pI_inv hstp
    obtain ⟨j, s2, rfl, h1⟩ := pI_inv h1
    obtain ⟨a, s3, rfl, ⟨n, h1, h2⟩, h4⟩ := pR_inv h1
    exact sd_zast hCX hTB hdec hH hlo h1 h2 fun H1 locs1 hH1 hl1 => hnx _ _ _ _ h4 H1 locs1 cells slots lsC hH1 hl1 (hx.trans (ext_wi _ _ _ _)) hL hg hc hsl
  | aaload =>
    obtain rfl : len = 1 := hln
    obtain rfl : Instr.aaload = i' := Option.some.inj hres
    obtain ⟨j, s1, rfl, h1⟩ := pI_inv hstp
    obtain ⟨a, s2, rfl, ⟨t, n, h1, h2, h3⟩, k, h4, h5⟩ := pR_inv h1
    exact sd_aald hCX hTB hdec hH h1 h2 h3 h4 (hnx _ _ _ _ h5 H locs cells slots lsC hH hlo hx hL hg hc hsl)
  | aastore =>
    obtain rfl : len = 1 := hln
    obtain rfl : Instr.aastore = i' := Option.some.inj hres
    obtain ⟨k, s1, rfl, h1⟩ := pR_inv hstp
    obtain ⟨j, s2, rfl, h1⟩ := pI_inv h1
    obtain ⟨a, s3, rfl, ⟨t, n, h1, h2, h3⟩, h4, h5⟩ := pR_inv h1
    exact sd_aast hCX hTB hdec hH hlo h1 h2 h3 fun H1 locs1 hH1 hl1 => hnx _ _ _ _ h5 H1 locs1 cells slots lsC hH1 hl1 (hx.trans (ext_wr _ h4)) hL hg hc hsl
  | arraylength =>
    obtain rfl : len = 1 := hln
    obtain rfl : Instr.arraylength = i' := Option.some.inj hres
    obtain ⟨a, s1, rfl, n, h1, h2⟩ := pR_inv hstp
    exact sd_alen hCX hTB hdec hH h1 (hnx _ _ _ _ h2 H locs cells slots lsC hH hlo hx hL hg hc hsl)
  | new k =>
    obtain rfl : len = 3 := hln
    cases hk : lk clsT q.2.2.2.2.1 k with
    | none => simp [resI, hk] at hres
    | some ci =>
      obtain rfl : Instr.new ci = i' := by simpa [resI, hk] using hres
      have hle : lenOf ci ≤ 400 := by unfold lenOf; split <;> omega
      cases g with
      | zero => exact hstp.elim
      | succ g1 =>
        obtain ⟨h1, h2⟩ : g' ≤ g1 ∧ _ := hstp
        exact sd_new hCX hTB hdec hk hH (by omega) (by omega) fun H1 hH1 => W.widen (k := cells + 1) (n := slots + lenOf ci) (Nat.le_refl _) (Nat.le_refl _) (hnx _ _ _ _ h2 H1 locs _ _ lsC hH1 hlo (hx.trans (ext_hn _ _ _)) hL h1 (by omega) (by omega))
  | newarray k =>
    obtain rfl : len = 2 := hln
    have hcl : ∃ t, ((t = 0 ∧ k = .int) ∨ (t = 1 ∧ k = .long) ∨ (t = 2 ∧ k = .boolean)) ∧ Instr.anewarray t = i' := by
      cases k <;> first | (exact ⟨0, Or.inl ⟨rfl, rfl⟩, Option.some.inj hres⟩) | (exact ⟨1, Or.inr (Or.inl ⟨rfl, rfl⟩), Option.some.inj hres⟩) | (exact ⟨2, Or.inr (Or.inr ⟨rfl, rfl⟩), Option.some.inj hres⟩) | (cases hres)
    obtain ⟨t, ht, rfl⟩ := hcl
    obtain ⟨x, s1, rfl, ⟨h1, h2⟩, h3⟩ := pI_inv hstp
    cases g with
    | zero => exact h3.elim
    | succ g1 =>
      obtain ⟨h4, h5⟩ : g' ≤ g1 ∧ _ := h3
      exact sd_newp hCX hTB hdec ht hH h1 h2 (by omega) (by omega) fun H1 hH1 => hnx _ _ _ _ h5 H1 locs _ _ lsC hH1 hlo (hx.trans (ext_hn _ _ _)) hL h4 (by omega) (by omega)
  | anewarray k =>
    obtain rfl : len = 3 := hln
    cases hk : lk clsT q.2.2.2.2.1 k with
    | none => simp [resI, hk] at hres
    | some ci =>
      have hcl : ∃ t, ((t = 3 ∧ ci = 2) ∨ (t = 4 ∧ ci = 0) ∨ (t = 5 ∧ ci = 3)) ∧ Instr.anewarray t = i' := by
        have hr : (match some ci with
          | some 2 => some (Instr.anewarray 3)
          | some 0 => some (Instr.anewarray 4)
          | some 3 => some (Instr.anewarray 5)
          | _ => none) = some i' := by rw [← hk]; exact hres
        match ci, hr with
        | 0, hr => exact ⟨4, Or.inr (Or.inl ⟨rfl, rfl⟩), Option.some.inj hr⟩
        | 1, hr => cases hr
        | 2, hr => exact ⟨3, Or.inl ⟨rfl, rfl⟩, Option.some.inj hr⟩
        | 3, hr => exact ⟨5, Or.inr (Or.inr ⟨rfl, rfl⟩), Option.some.inj hr⟩
        | n + 4, hr => cases hr
      obtain ⟨t, ht, rfl⟩ := hcl
      obtain ⟨x, s1, rfl, ⟨h1, h2⟩, h3⟩ := pI_inv hstp
      obtain ⟨-, -, ⟨o1, o2, o3⟩, -⟩ := id hTB
      cases g with
      | zero => exact h3.elim
      | succ g1 =>
        obtain ⟨h4, h5⟩ : g' ≤ g1 ∧ _ := h3
        rcases ht with ⟨rfl, rfl⟩ | ⟨rfl, rfl⟩ | ⟨rfl, rfl⟩
        · exact sd_newr (t := 3) (C := RX2) hCX hTB hdec rfl hk o1 rfl (by omega) (fun _ _ _ => rfl) hH h1 h2 (by omega) (by omega) fun H1 hH1 => hnx _ _ _ _ h5 H1 locs _ _ lsC hH1 hlo (hx.trans (ext_hn _ _ _)) hL h4 (by omega) (by omega)
        · exact sd_newr (t := 4) (C := RX0) hCX hTB hdec rfl hk o2 rfl (by omega) (fun _ _ _ => rfl) hH h1 h2 (by omega) (by omega) fun H1 hH1 => hnx _ _ _ _ h5 H1 locs _ _ lsC hH1 hlo (hx.trans (ext_hn _ _ _)) hL h4 (by omega) (by omega)
        · exact sd_newr (t := 5) (C := RX3) hCX hTB hdec rfl hk o3 rfl (by omega) (fun _ _ _ => rfl) hH h1 h2 (by omega) (by omega) fun H1 hH1 => hnx _ _ _ _ h5 H1 locs _ _ lsC hH1 hlo (hx.trans (ext_hn _ _ _)) hL h4 (by omega) (by omega)
  | invokevirtual k =>
    obtain rfl : len = 3 := hln
    cases hk : lk calV q.2.2.2.2.1 k with
    | none => simp [resI, hk] at hres
    | some ee =>
      obtain rfl : Instr.invokevirtual ee = i' := by simpa [resI, hk] using hres
      have hmem := lk_mem hk
      have hok : eOKV ee = true := List.all_eq_true.mp ok_V _ hmem
      unfold eOKV at hok
      rw [Bool.and_eq_true] at hok
      obtain ⟨av, s1, rfl, hlen, hz⟩ := pN_inv hstp
      obtain ⟨a, s2, rfl, h1, h2⟩ := pR_inv hz
      obtain ⟨hw8, haw, d1, rfl, g1, hgg, hE⟩ := cal_inv h2
      obtain ⟨qc, hM, hmn, hpar, hkd, hpl, hn1, hn2, h30, hmL, hcode⟩ := cal_ok hok.1
      have w1 := hts _ (gw_in (wd_linkV _ hmem) rfl)
      have w2 := hts _ (gw_in (wd_instV _ hmem) rfl)
      have w3 := hts _ (gw_in (wd_sel _ hmem) rfl)
      have w4 := hts _ (gw_in (wd_iniV _ hmem) rfl)
      have hcn := of_decide_eq_true hok.2
      dsimp only at w1 w2 w3 w4
      rw [hmn] at w1 w2 w3 w4 hcn
      have hMet := met_of_ev (l := l) (D := D) (cA := cA) (cS := cS) (b := b) (B := B) hM hpl hE hgg.2 (Nat.le_trans haw hmL)
      have hat := (hH.at h1 (by simp; omega)).1
      rw [eOf_obj] at hat
      obtain ⟨rr, hrr, cell, q1, q2, q3, -⟩ := hat
      have hrn : rr.1 = qc.1.cls := by have hrr : vwCl[ee / 128 % 16]? = some rr := hrr; rw [hrr] at hcn; exact Option.some.inj hcn
      have hfc := (hTB.1.1 _ _ hrr).2.1
      rw [hrn] at hfc
      refine cal_then hkd hlo hx hL hgg hc hsl (fun g2 st h2 hn H locs cells slots hH hlo hx hg hc hsl => hnx _ _ _ _ hn H locs cells slots lsC hH hlo hx hL hg hc hsl) (va_runV (C := qc.1.cls) (n := ee / 8 % 16) (b := rho b B a) (As := av.map (trV b B)) (rest := s2.map (trV b B)) ⟨hex, hb, hml, hown, hts⟩ hMet ⟨callB_of (ee / 8 % 16) hts (gin (ws := []) hcode) rfl rfl rfl w4 w1 ⟨hn1, hn2, hpar⟩ ⟨hfr, by show 8 + (qc.2.2.1 + 11) + 60 * d1 ≤ _; omega⟩, w2, w3⟩ ⟨blind, ⟨cell, q1, by rw [q3]; rfl, by rw [q2]; exact hfc⟩, fun U hU hW => ⟨rfl, by rw [hU]; exact hH, hTB.moved hW⟩⟩ rfl (by rw [List.length_map]; exact hlen) hL.1 (by simp [trV]) (lv_room (by rw [wsum_map]; exact hw8)) hdec ⟨by omega, by omega⟩)
  | invokestatic k =>
    obtain rfl : len = 3 := hln
    cases hk : lk calS q.2.2.2.2.1 k with
    | some ee =>
      obtain rfl : Instr.invokestatic ee = i' := by simpa [resI, hk] using hres
      have hmem := lk_mem hk
      have hok := List.all_eq_true.mp ok_S _ hmem
      simp only [Bool.and_eq_true, Bool.not_eq_true'] at hok
      obtain ⟨⟨⟨hok, hn98⟩, hn97⟩, hn96⟩ := hok
      have hstp : pN (ee / 8 % 16) st fun av s => cal Ev d g g' ee av h s fun g s h => nx g ls s h := by
        have hh : (bif Nat.beq ee 9997 then _ else bif Nat.beq ee 9996 then _ else bif Nat.beq ee 9998 then _ else (pN (ee / 8 % 16) st fun av s => cal Ev d g g' ee av h s fun g s h => nx g ls s h)) := hstp
        rw [hn97, hn96, hn98] at hh
        exact hh
      obtain ⟨av, s1, rfl, hlen, h2⟩ := pN_inv hstp
      obtain ⟨hw8, haw, d1, rfl, g1, hgg, hE⟩ := cal_inv h2
      obtain ⟨qc, hM, hmn, hpar, hkd, hpl, hn1, hn2, h30, hmL, hcode⟩ := cal_ok hok
      have w1 := hts _ (gw_in (wd_linkS _ hmem) rfl)
      have w2 := hts _ (gw_in (wd_stat _ hmem) rfl)
      have w4 := hts _ (gw_in (wd_iniS _ hmem) rfl)
      dsimp only at w1 w2 w4
      rw [hmn] at w1 w2 w4
      have hMet := met_of_ev (l := l) (D := D) (cA := cA) (cS := cS) (b := b) (B := B) hM hpl hE hgg.2 (Nat.le_trans haw hmL)
      refine cal_then hkd hlo hx hL hgg hc hsl (fun g2 st h2 hn H locs cells slots hH hlo hx hg hc hsl => hnx _ _ _ _ hn H locs cells slots lsC hH hlo hx hL hg hc hsl) (va_runS (n := ee / 8 % 16) (As := av.map (trV b B)) (rest := s1.map (trV b B)) ⟨hex, hb, hml, hown, hts⟩ hMet ⟨callB_of (ee / 8 % 16) hts (gin (ws := []) hcode) rfl rfl rfl w4 w1 ⟨hn1, hn2, hpar⟩ ⟨hfr, by show 8 + (qc.2.2.1 + 11) + 60 * d1 ≤ _; omega⟩, w2⟩ ⟨blind, fun U hU hW => ⟨rfl, by rw [hU]; exact hH, hTB.moved hW⟩⟩ rfl (by rw [List.length_map]; exact hlen) hL.1 (by simp) (lv_room (by rw [wsum_map]; exact hw8)) hdec ⟨by omega, by omega⟩)
    | none =>
      cases hk2 : lk cpyT q.2.2.2.2.1 k with
      | some ee =>
        obtain rfl : Instr.invokestatic ee = i' := by simpa [resI, hk, hk2] using hres
        obtain rfl : ee = 9998 := Nat.eq_of_beq_eq_true (List.all_eq_true.mp ok_C _ (lk_mem hk2))
        obtain ⟨n, s1, rfl, z1⟩ := pI_inv hstp
        obtain ⟨dp, s2, rfl, z2⟩ := pI_inv z1
        obtain ⟨a1, s3, rfl, z3⟩ := pR_inv z2
        obtain ⟨sp, s4, rfl, z4⟩ := pI_inv z3
        obtain ⟨a0, s5, rfl, z5⟩ := pR_inv z4
        obtain ⟨hw8, h1⟩ := bif_inv z5
        cases d with
        | zero => exact h1.elim
        | succ d1 =>
          obtain ⟨⟨n0, n1, e0, e1, k1, k2, k3, k4, k5⟩, h2⟩ := h1
          exact sd_copy hCX hTB hdec hk2 hH hlo hL.1 e0 e1 k1 k2 k3 k4 k5 (by omega) (by omega) (by rw [wsum_map]; exact Nat.le_of_ble_eq_true hw8) fun H1 locs1 hH1 hl1 => hnx _ _ _ _ h2 H1 locs1 cells slots lsC hH1 hl1 (hx.trans (ext_wa _ _ _)) hL hg hc hsl
      | none =>
        cases hk3 : lk mxxT q.2.2.2.2.1 k with
        | some ee =>
          obtain rfl : Instr.invokestatic ee = i' := by simpa [resI, hk, hk2, hk3] using hres
          obtain rfl : ee = 9997 := Nat.eq_of_beq_eq_true (List.all_eq_true.mp ok_X _ (lk_mem hk3))
          obtain ⟨y, s1, rfl, h1⟩ := pI_inv hstp
          obtain ⟨x, s2, rfl, h1⟩ := pI_inv h1
          obtain ⟨hw8, h1⟩ := bif_inv h1
          have hw8 := Nat.le_of_ble_eq_true hw8
          cases d with
          | zero => exact h1.elim
          | succ d1 => exact va_mmax hex hb (hml.trans hL.1.symm) hown (hts _ (gw_in (wd_mx _ (lk_mem hk3)) rfl)) (hts _ (gw_in wd_mxs rfl)) (hts _ (gw_in wd_mi rfl)) (hts _ (gw_in wd_mxc rfl)) (by omega) (by rw [wsum_map]; omega) (by omega) (by omega) hdec (hnx _ _ _ _ h1 H locs cells slots lsC hH hlo hx hL hg hc hsl)
        | none =>
          cases hk4 : lk mnnT q.2.2.2.2.1 k with
          | none => simp [resI, hk, hk2, hk3, hk4] at hres
          | some ee =>
            obtain rfl : Instr.invokestatic ee = i' := by simpa [resI, hk, hk2, hk3, hk4] using hres
            obtain rfl : ee = 9996 := Nat.eq_of_beq_eq_true (List.all_eq_true.mp ok_M _ (lk_mem hk4))
            obtain ⟨y, s1, rfl, h1⟩ := pI_inv hstp
            obtain ⟨x, s2, rfl, h1⟩ := pI_inv h1
            obtain ⟨hw8, h1⟩ := bif_inv h1
            have hw8 := Nat.le_of_ble_eq_true hw8
            cases d with
            | zero => exact h1.elim
            | succ d1 => exact va_mmin hex hb (hml.trans hL.1.symm) hown (hts _ (gw_in (wd_mn _ (lk_mem hk4)) rfl)) (hts _ (gw_in wd_mns rfl)) (hts _ (gw_in wd_mi rfl)) (hts _ (gw_in wd_mnc rfl)) (by omega) (by rw [wsum_map]; omega) (by omega) (by omega) hdec (hnx _ _ _ _ h1 H locs cells slots lsC hH hlo hx hL hg hc hsl)
  | invokespecial k =>
    obtain rfl : len = 3 := hln
    cases hk : lk calI q.2.2.2.2.1 k with
    | some ee =>
      obtain rfl : Instr.invokespecial ee = i' := by simpa [resI, hk] using hres
      have hmem := lk_mem hk
      have hok : eOKI ee = true := List.all_eq_true.mp ok_I _ hmem
      unfold eOKI at hok
      simp only [Bool.and_eq_true, Bool.not_eq_true'] at hok
      obtain ⟨⟨⟨hok, hini⟩, hk0⟩, hn99⟩ := hok
      have hstp : pN (ee / 8 % 16) st fun av s => pR s fun a s => cal Ev d g g' ee (.ref a :: av) h s fun g s h => nx g ls s h := by
        have hh : (bif Nat.beq ee 9999 then _ else (pN (ee / 8 % 16) st fun av s => pR s fun a s => cal Ev d g g' ee (.ref a :: av) h s fun g s h => nx g ls s h)) := hstp
        rw [hn99] at hh
        exact hh
      obtain ⟨av, s1, rfl, hlen, h1⟩ := pN_inv hstp
      obtain ⟨a, s2, rfl, h2⟩ := pR_inv h1
      obtain ⟨hw8, haw, d1, rfl, g1, hgg, hE⟩ := cal_inv h2
      obtain ⟨qc, hM, hmn, hpar, hkd, hpl, hn1, hn2, h30, hmL, hcode⟩ := cal_ok hok
      have hk0 := Nat.eq_of_beq_eq_true hk0
      have hr0 : qc.2.2.2.1 = none := by
        have hkd := hkd
        rw [hk0] at hkd
        revert hkd
        generalize qc.2.2.2.1 = rt
        intro hkd
        cases rt with
        | none => rfl
        | some z => cases hkd
      have w1 := hts _ (gw_in (wd_linkI _ hmem) rfl)
      have w2 := hts _ (gw_in (wd_instI _ hmem) rfl)
      have w4 := hts _ (gw_in (wd_iniI _ hmem) rfl)
      have hini := of_decide_eq_true hini
      dsimp only at w1 w2 w4
      rw [hmn] at w1 w2 w4 hini
      have hMet := met_of_ev (l := l) (D := D) (cA := cA) (cS := cS) (b := b) (B := B) hM hpl hE hgg.2 (Nat.le_trans haw hmL)
      refine cal_then hkd hlo hx hL hgg hc hsl (fun g2 st h2 hn H locs cells slots hH hlo hx hg hc hsl => hnx _ _ _ _ hn H locs cells slots lsC hH hlo hx hL hg hc hsl) (va_runI (n := ee / 8 % 16) (b := rho b B a) (As := av.map (trV b B)) (rest := s2.map (trV b B)) ⟨hex, hb, hml, hown, hts⟩ hMet ⟨callB_of (ee / 8 % 16) hts (gin (ws := []) hcode) (by rw [hr0]) rfl rfl w4 w1 ⟨hn1, hn2, hpar⟩ ⟨hfr, by show 8 + (qc.2.2.1 + 11) + 60 * d1 ≤ _; omega⟩, hini, w2⟩ ⟨blind, fun U hU hW => ⟨rfl, by rw [hU]; exact hH, hTB.moved hW⟩⟩ rfl (by rw [List.length_map]; exact hlen) hL.1 (by simp [trV]) (lv_room (by rw [wsum_map]; exact hw8)) hdec ⟨by omega, by omega⟩)
    | none =>
      cases hk2 : lk nesT q.2.2.2.2.1 k with
      | some ee =>
        obtain rfl : Instr.invokespecial ee = i' := by simpa [resI, hk, hk2] using hres
        have hmem := lk_mem hk2
        have hok : eOKI ee = true := List.all_eq_true.mp ok_N _ hmem
        unfold eOKI at hok
        simp only [Bool.and_eq_true, Bool.not_eq_true'] at hok
        obtain ⟨⟨⟨hok, hini⟩, hk0⟩, hn99⟩ := hok
        have hstp : pN (ee / 8 % 16) st fun av s => pR s fun a s => cal Ev d g g' ee (.ref a :: av) h s fun g s h => nx g ls s h := by
          have hh : (bif Nat.beq ee 9999 then _ else (pN (ee / 8 % 16) st fun av s => pR s fun a s => cal Ev d g g' ee (.ref a :: av) h s fun g s h => nx g ls s h)) := hstp
          rw [hn99] at hh
          exact hh
        obtain ⟨av, s1, rfl, hlen, h1⟩ := pN_inv hstp
        obtain ⟨a, s2, rfl, h2⟩ := pR_inv h1
        obtain ⟨hw8, haw, d1, rfl, g1, hgg, hE⟩ := cal_inv h2
        obtain ⟨qc, hM, hmn, hpar, hkd, hpl, hn1, hn2, h30, hmL, hcode⟩ := cal_ok hok
        have hk0 := Nat.eq_of_beq_eq_true hk0
        have hr0 : qc.2.2.2.1 = none := by
          have hkd := hkd
          rw [hk0] at hkd
          revert hkd
          generalize qc.2.2.2.1 = rt
          intro hkd
          cases rt with
          | none => rfl
          | some z => cases hkd
        have w1 := hTB.2.1 _ hmem
        have w2 := hts _ (gw_in (wd_nestI _ hmem) rfl)
        have w4 := hts _ (gw_in (wd_nestN _ hmem) rfl)
        have hini := of_decide_eq_true hini
        dsimp only at w1 w2 w4
        rw [hmn] at w1 w2 w4 hini
        have hMet := met_of_ev (l := l) (D := D) (cA := cA) (cS := cS) (b := b) (B := B) hM hpl hE hgg.2 (Nat.le_trans haw hmL)
        refine cal_then hkd hlo hx hL hgg hc hsl (fun g2 st h2 hn H locs cells slots hH hlo hx hg hc hsl => hnx _ _ _ _ hn H locs cells slots lsC hH hlo hx hL hg hc hsl) (va_runIN (n := ee / 8 % 16) (b := rho b B a) (As := av.map (trV b B)) (rest := s2.map (trV b B)) ⟨hex, hb, hml, hown, hts⟩ hMet ⟨va_cnB (ee / 8 % 16) hts (gin (ws := []) hcode) (by rw [hr0]) rfl rfl w1 w4 ⟨hn1, hn2, hpar⟩ ⟨hfr, by show 8 + (qc.2.2.1 + 11) + 60 * d1 ≤ _; omega⟩, hini, w2⟩ ⟨blind, fun U hU hW => ⟨rfl, by rw [hU]; exact hH, hTB.moved hW⟩⟩ rfl (by rw [List.length_map]; exact hlen) hL.1 (by simp [trV]) (lv_room (by rw [wsum_map]; exact hw8)) hdec ⟨by omega, by omega⟩)
      | none =>
        cases hk3 : lk objT q.2.2.2.2.1 k with
        | none => simp [resI, hk, hk2, hk3] at hres
        | some ee =>
          obtain rfl : Instr.invokespecial ee = i' := by simpa [resI, hk, hk2, hk3] using hres
          obtain rfl : ee = 9999 := Nat.eq_of_beq_eq_true (List.all_eq_true.mp ok_O _ (lk_mem hk3))
          obtain ⟨a, s1, rfl, h1⟩ := pR_inv hstp
          obtain ⟨hw8, h1⟩ := bif_inv h1
          have hw8 := Nat.le_of_ble_eq_true hw8
          cases d with
          | zero => exact h1.elim
          | succ d1 => exact W.objInit hex hb hown (hts _ (gw_in (wd_obj _ (lk_mem hk3)) rfl)) (hts _ (gw_in wd_oi rfl)) (hts _ (gw_in wd_oc rfl)) rfl (hL.1.trans hml.symm) rfl hdec (by omega) (by show 2 * 0 + _ + 12 ≤ _; rw [wsum_map]; omega) (hnx _ _ _ _ h1 H locs cells slots lsC hH hlo hx hL hg hc hsl)
  | ireturn =>
    obtain rfl : len = 1 := hln
    obtain rfl : Instr.ireturn = i' := Option.some.inj hres
    obtain ⟨x, s1, rfl, h1⟩ := pI_inv hstp
    obtain ⟨rfl, h2⟩ := nil0_inv h1
    have h3 : vOK q.2.2.2.1 (.int x) ∧ Q (.int x) h := by
      unfold rOK at h2
      show (q.2.2.2.1 = some .int ∨ (q.2.2.2.1 = some .boolean ∧ isB x = true)) ∧ _
      revert h2
      generalize q.2.2.2.1 = rt
      intro h2
      split at h2
      · exact ⟨Or.inl rfl, h2⟩
      · exact ⟨Or.inr ⟨rfl, h2.1⟩, h2.2⟩
      · exact h2.elim
    exact W.widen (k := mc) (n := ms) (by omega) (by omega) (hret (.int x) h H locs pc lsC h3.2 hx hH hlo h3.1 hdec)
  | lreturn =>
    obtain rfl : len = 1 := hln
    obtain rfl : Instr.lreturn = i' := Option.some.inj hres
    obtain ⟨x, s1, rfl, h1⟩ := pJ_inv hstp
    obtain ⟨rfl, h2, h3⟩ := nil0_inv h1
    exact W.widen (k := mc) (n := ms) (by omega) (by omega) (hret (.long x) h H locs pc lsC h3 hx hH hlo h2 hdec)
  | areturn =>
    obtain rfl : len = 1 := hln
    obtain rfl : Instr.areturn = i' := Option.some.inj hres
    obtain ⟨v, s1, rfl, h1⟩ := pV_inv hstp
    rcases lA_inv h1 with ⟨x, rfl, h2⟩ | ⟨rfl, h2⟩
    · obtain ⟨rfl, h2, h3⟩ := nil0_inv h2
      exact W.widen (k := mc) (n := ms) (by omega) (by omega) (hret (.ref x) h H locs pc lsC h3 hx hH hlo h2 hdec)
    · obtain ⟨rfl, h2, h3⟩ := nil0_inv h2
      exact W.widen (k := mc) (n := ms) (by omega) (by omega) (hret .null h H locs pc lsC h3 hx hH hlo h2 hdec)
  | return_ =>
    obtain rfl : len = 1 := hln
    obtain rfl : Instr.return_ = i' := Option.some.inj hres
    obtain ⟨rfl, h2, h3⟩ := nil0_inv hstp
    exact W.widen (k := mc) (n := ms) (by omega) (by omega) (hret (.retAddr 0) h H locs pc lsC h3 hx hH hlo h2 hdec)
  | _ => cases hres

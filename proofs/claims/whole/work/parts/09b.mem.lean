/-! memory instructions over the relation -/
theorem eOf_obj (cA : Nat → ClassId) (b B : Nat) (h : AH) (a ci n : Nat) : eOf cA b B h a (10 + ci, n) = .inr (ci, (List.range n).map (fvl b B h a ci)) := by
  rw [Nat.add_comm]
  show (Sum.inr (ci + 10 - 10, (List.range n).map (fvl b B h a (ci + 10 - 10))) : va_E) = _
  rw [Nat.add_sub_cancel]
section MEM
variable {D : va_G} {cA : Nat → ClassId} {cS : ClassId} {b B : Nat} {h : AH} {p : Program} {l : Launch} {e : Env} {R : Room} {s : State} {m : MethodId} {args : Array Value} {below : List Frame} {meth : Method} {c : Code} {H : Heap} {locs : List Loc} {cells slots : Nat} {Z : State → Prop} {q : Mt} {pc idx r a : Nat} {lsC : Array Slot} {rest : List Value}
theorem sd_get (hCX : CX p s m args meth c q) (hTB : TB D cA cS s) (hdec : decode q.2.1 pc = .ok (.getfield idx, 3)) (hl : lk fldT q.2.2.2.2.1 idx = some r) (hH : HR D cA cS b B h H) (e1 : hs h a = some (10 + r / 256, lenOf (r / 256))) {v : Value} (hv : fvl b B h a (r / 256) (r / 4 % 64) = v)
    (kk : W p l e R s m args below meth c H locs cells slots Z (F0 m (pc + 3) lsC (v :: rest))) : W p l e R s m args below meth c H locs cells slots Z (F0 m pc lsC (.ref (rho b B a) :: rest)) := by
  obtain ⟨hex, hb, hml, hrt, hown, hnm, hlk, hts⟩ := hCX
  obtain ⟨C, T, N, hc, hk, hN, h8, hC, hT1, hw, hty⟩ := fld_ok (lk_mem hl)
  have hP := hH.P e1 (by simp; omega) (eOf_obj cA b B h a _ _)
  refine va_get (C := C) (T := T) (N := N) (ci := r / 256) (ref := (T (r / 4 % 64)).1) hex hb hts (lay_in hc) hown hTB.1 hP 0 rfl hc (r / 4 % 64) hk (hts _ hw) (fun _ h9 => h9) (v := v) ?_ hdec kk
  rw [List.getElem?_map, List.getElem?_range (by rw [← hN]; exact hk), ← hv]
  rfl
theorem sd_put (hCX : CX p s m args meth c q) (hTB : TB D cA cS s) (hdec : decode q.2.1 pc = .ok (.putfield idx, 3)) (hl : lk fldT q.2.2.2.2.1 idx = some r) (hfin : (finF r && !(decide (q.1.name = "<init>") && Nat.beq q.2.2.2.2.1 (r / 256))) = false) (hH : HR D cA cS b B h H) (e1 : hs h a = some (10 + r / 256, lenOf (r / 256))) {v : Value} (hnw : narrow (tyA (r / 256) (r / 4 % 64)) v = v) (hft : fits (tyA (r / 256) (r / 4 % 64)) v = true)
    (kk : ∀ (H1 : Heap) (locs1 : List Loc), H1.size = H.size → (∀ x, x ≠ rho b B a → H1[x]? = H[x]?) → (∀ x ∈ locs1, x ∈ locs ∨ x.base = rho b B a) → va_at D vwCl (rho b B a, .inr (r / 256, ((List.range (lenOf (r / 256))).map (fvl b B h a (r / 256))).set (r / 4 % 64) v)) H1 → W p l e R s m args below meth c H1 locs1 cells slots Z (F0 m (pc + 3) lsC rest)) : W p l e R s m args below meth c H locs cells slots Z (F0 m pc lsC (v :: .ref (rho b B a) :: rest)) := by
  obtain ⟨hex, hb, hml, hrt, hown, hnm, hlk, hts⟩ := hCX
  obtain ⟨C, T, N, hc, hk, hN, h8, hC, hT1, hw, hty⟩ := fld_ok (lk_mem hl)
  obtain ⟨ht, hn⟩ := ty_ok hc
  have hP := hH.P e1 (by simp; omega) (eOf_obj cA b B h a _ _)
  have hin := lay_in hc
  have hap := va_apart (own := C) hts hin (tyA (r / 256)) ht hn hTB.1 hc
  obtain ⟨rr, h1, cell, q1, q2, q3, q4⟩ := hP 0 _ rfl
  have hr : rr = (C, T, N) := Option.some.inj (h1.symm.trans hc)
  subst hr
  obtain ⟨hS, hfc, kC, hkC, hkind⟩ := hTB.1.1 _ _ hc
  obtain ⟨cf, kf, fi, f, hi, hsl⟩ := hS _ hk
  have hlay := hts _ (hin _ (u_in_lay hk))
  unfold u_lay at hlay
  have hst := (u_facts hfc hkC (u_lays hts hin hk) hi).1
  have hd := ht _ hk
  have hfs : r / 4 % 64 < ((List.range (lenOf (r / 256))).map (fvl b B h a (r / 256))).length := by rw [List.length_map, List.length_range, ← hN]; exact hk
  have hF : finF r = (T (r / 4 % 64)).2.2.2 := by unfold finF; rw [hc]
  cases hfb : (T (r / 4 % 64)).2.2.2 with
  | false =>
    rw [if_neg (by rw [hfb]; decide)] at hlay
    have h6 := u_store hfc hkC hkind hlay hi hd hnw hft
    refine W.putK hex hb (f := f) ⟨hown, hts _ hw, ⟨_, _, _, hi⟩, hst⟩ (by rw [q2]; exact h6) q1 q3 (by rw [hsl]; exact k2_hasslot (q4 _ hk)) rfl rfl hdec fun H' e1 e2 e3 => ?_
    rw [hsl] at e1 ⊢
    exact kk H' _ e2 e3 (fun x hx => (List.mem_append.mp hx).elim Or.inl fun hx => Or.inr (by rw [List.mem_singleton.mp hx])) ⟨_, hc, t_OB.to (V := updV (vp_V _) _ v) ⟨_, e1, q2, q3, t_set q4 hap hk v⟩ (fun j _ => vp_updV_set hfs v j)⟩
  | true =>
    rw [if_pos hfb] at hlay
    rw [hF, hfb, Bool.true_and, Bool.not_eq_false', Bool.and_eq_true] at hfin
    have hini : q.1.name = "<init>" := by simpa using hfin.1
    have hoo : q.2.2.2.2.1 = r / 256 := Nat.eq_of_beq_eq_true hfin.2
    have hcf : m.cls = cf := by
      obtain ⟨_, _, c', _, _, _, -, -, hf', -, -, -, hown2, -⟩ := Cond.laysFinal_spec hlay
      have e1 : c' = cf := by have := hi.symm.trans hf'; simp at this; exact this.1.symm
      rw [hT1, hC, ← hoo] at hown2
      rw [← e1]; exact Option.some.inj (hown.symm.trans hown2)
    have h6 := u_fits hfc hkC hkind (Or.inr hlay) hi hd hnw hft
    refine W.putFinK hex hb hown (hts _ hw) hi hst hcf (hnm hini) (by rw [q2]; exact h6) q1 q3 (by rw [hsl]; exact k2_hasslot (q4 _ hk)) rfl rfl hdec fun H' e1 e2 e3 => ?_
    rw [hsl] at e1 ⊢
    exact kk H' _ e2 e3 (fun x hx => (List.mem_append.mp hx).elim Or.inl fun hx => Or.inr (by rw [List.mem_singleton.mp hx])) ⟨_, hc, t_OB.to (V := updV (vp_V _) _ v) ⟨_, e1, q2, q3, t_set q4 hap hk v⟩ (fun j _ => vp_updV_set hfs v j)⟩
theorem fs_set {n k : Nat} {f g : Nat → Value} {v : Value} (hk : k < n) (h1 : g k = v) (h2 : ∀ j, j ≠ k → g j = f j) : (List.range n).map g = ((List.range n).map f).set k v := by
  apply List.ext_getElem?
  intro j
  rw [List.getElem?_set]
  by_cases hj : j < n
  · by_cases hjk : k = j
    · subst hjk
      simp [hj, h1]
    · rw [if_neg hjk, List.getElem?_map, List.getElem?_map, List.getElem?_range hj]
      simp [h2 j (Ne.symm hjk)]
  · rw [List.getElem?_eq_none (by simp; omega)]
    split
    · rename_i hjk
      subst hjk
      simp
      omega
    · rw [List.getElem?_eq_none (by simp; omega)]
theorem hr_puti (hH : HR D cA cS b B h H) {ci k : Nat} {x : Int32} (hk : k < lenOf ci) (hci : isRefT (tyA ci k) = false) (e1 : hs h a = some (10 + ci, lenOf ci)) {H1 : Heap} (z : H1.size = H.size) (o : ∀ x, x ≠ rho b B a → H1[x]? = H[x]?) (hn : va_at D vwCl (rho b B a, .inr (ci, ((List.range (lenOf ci)).map (fvl b B h a ci)).set k (.int x))) H1) : HR D cA cS b B (wi h a k x) H1 := by
  refine hH.upd e1 (by simp; omega) z o rfl (fun a' q' hne => eOf_wi q' hne) (fun h0 => by funext j; simp [wi, Ne.symm h0]) ?_
  rw [eOf_obj, fs_set (f := fvl b B h a ci) (v := .int x) hk]
  · exact hn
  · unfold fvl
    rw [hci]
    simp [wi]
  · intro j hj
    unfold fvl
    have : (wi h a k x).2.1 a j = h.2.1 a j := by simp [wi, hj]
    rw [this]
    rfl
theorem hr_putr (hH : HR D cA cS b B h H) {ci k x : Nat} (hk : k < lenOf ci) (hci : isRefT (tyA ci k) = true) (e1 : hs h a = some (10 + ci, lenOf ci)) {H1 : Heap} (z : H1.size = H.size) (o : ∀ x, x ≠ rho b B a → H1[x]? = H[x]?) (hn : va_at D vwCl (rho b B a, .inr (ci, ((List.range (lenOf ci)).map (fvl b B h a ci)).set k (.ref (rho b B x)))) H1) : HR D cA cS b B (wr h a k x) H1 := by
  refine hH.upd e1 (by simp; omega) z o rfl (fun a' q' hne => eOf_wr q' hne) (fun h0 => rfl) ?_
  rw [eOf_obj, fs_set (f := fvl b B h a ci) (v := .ref (rho b B x)) hk]
  · exact hn
  · unfold fvl
    rw [hci]
    simp [wr, va_rf]
  · intro j hj
    unfold fvl
    have : (wr h a k x).2.2.2 a j = h.2.2.2 a j := by simp [wr, hj]
    rw [this]
    rfl
theorem isA {ty : FieldType} {t n : Nat} {f : Nat → Value} (hTB : TB D cA cS s) (ht : (tysL cA)[t]? = some (cA t, ty)) : s.isArrayOf (arrV (cA t) n f) ty := (hTB.1.2 t _ ht).1 n f
theorem loc_ok {locs1 : List Loc} {x0 : Nat} (h0 : ∀ x ∈ locs, B ≤ x.base) (h1 : ∀ x ∈ locs1, x ∈ locs ∨ x.base = x0) (hB : B ≤ x0) : ∀ x ∈ locs1, B ≤ x.base := fun x hx => (h1 x hx).elim (h0 x) fun e => by rw [e]; exact hB
theorem loc_app {x0 k : Nat} (h0 : ∀ x ∈ locs, B ≤ x.base) (hB : B ≤ x0) : ∀ x ∈ locs ++ [(⟨x0, k⟩ : Loc)], B ≤ x.base := fun x hx => (List.mem_append.mp hx).elim (h0 x) fun e => by rw [List.mem_singleton.mp e]; exact hB
theorem sd_iald (hCX : CX p s m args meth c q) (hTB : TB D cA cS s) (hdec : decode q.2.1 pc = .ok (.iaload, 1)) (hH : HR D cA cS b B h H) {i : Int32} {t n : Nat} (e1 : hs h a = some (t, n)) (ht : t = 0 ∨ t = 9) (hin : vp_in i n)
    (kk : W p l e R s m args below meth c H locs cells slots Z (F0 m (pc + 1) lsC (.int (mi h a i.toNatClampNeg) :: rest))) : W p l e R s m args below meth c H locs cells slots Z (F0 m pc lsC (.int i :: .ref (rho b B a) :: rest)) := by
  obtain ⟨hex, hb, -⟩ := hCX
  rcases ht with rfl | rfl
  · exact va_iald hex hb hTB.1 (hH.P e1 (by simp) rfl) 0 0 rfl rfl hin hdec kk
  · have h0 : a = 0 := by
      cases a with
      | zero => rfl
      | succ a => exact absurd rfl (hH.2.2.2 a _ e1).1
    subst h0
    obtain ⟨L, scr, s1, s2, s3, s4, s5, s6, s7⟩ := hH.2.2.1
    obtain ⟨-, -, -, k, comp, k1, k2⟩ := hTB
    have hL : L = n := by have := s1.symm.trans e1; simp at this; exact this
    subst hL
    have hlt : i.toNatClampNeg < L := Nat.not_le.mp fun q => hin (Or.inr q)
    exact W.iald hex hb s2 ⟨s5, k, by rw [s3]; exact k1, comp, k2⟩ s4 (by rw [s6]; exact hin) (s7 _ hlt) rfl rfl hdec kk
theorem sd_iast (hCX : CX p s m args meth c q) (hTB : TB D cA cS s) (hdec : decode q.2.1 pc = .ok (.iastore, 1)) (hH : HR D cA cS b B h H) (hlo : ∀ x ∈ locs, B ≤ x.base) {i x : Int32} {n : Nat} (e1 : hs h a = some (0, n)) (hin : vp_in i n)
    (kk : ∀ (H1 : Heap) (locs1 : List Loc), HR D cA cS b B (wi h a i.toNatClampNeg x) H1 → (∀ x ∈ locs1, B ≤ x.base) → W p l e R s m args below meth c H1 locs1 cells slots Z (F0 m (pc + 1) lsC rest)) : W p l e R s m args below meth c H locs cells slots Z (F0 m pc lsC (.int x :: .int i :: .ref (rho b B a) :: rest)) := by
  obtain ⟨hex, hb, -⟩ := hCX
  obtain ⟨hat, hB⟩ := hH.at e1 (by simp)
  refine W.iast hex hb hat (isA (t := 0) hTB rfl) (fun q => by cases q) (by show ¬ (i < 0 ∨ (arrV _ _ _).slots.size ≤ _); rw [arrV_size]; exact hin) rfl rfl hdec fun H1 e2 z oq => ?_
  refine kk H1 _ (hH.upd e1 (by simp) z oq rfl (fun a' q' hne => eOf_wi q' hne) (fun h0 => by funext j; simp [wi, Ne.symm h0]) ?_) (loc_app hlo hB)
  show H1[rho b B a]? = some (vp_cell _ _)
  rw [e2]
  show some ((vp_cell (cA 0) (n, .inl (h.2.1 a))).setSlot _ _) = some (vp_cell (cA 0) (n, .inl ((wi h a i.toNatClampNeg x).2.1 a)))
  rw [vp_cell_i, vp_cell_i, arrV_store]
  congr 2
  funext j
  by_cases hj : j = i.toNatClampNeg
  · subst hj
    simp [updV, wi]
  · simp [updV, wi, hj]
theorem sd_zast (hCX : CX p s m args meth c q) (hTB : TB D cA cS s) (hdec : decode q.2.1 pc = .ok (.bastore, 1)) (hH : HR D cA cS b B h H) (hlo : ∀ x ∈ locs, B ≤ x.base) {i x : Int32} {n : Nat} (e1 : hs h a = some (2, n)) (hin : vp_in i n)
    (kk : ∀ (H1 : Heap) (locs1 : List Loc), HR D cA cS b B (wi h a i.toNatClampNeg (x &&& 1)) H1 → (∀ x ∈ locs1, B ≤ x.base) → W p l e R s m args below meth c H1 locs1 cells slots Z (F0 m (pc + 1) lsC rest)) : W p l e R s m args below meth c H locs cells slots Z (F0 m pc lsC (.int x :: .int i :: .ref (rho b B a) :: rest)) := by
  obtain ⟨hex, hb, -⟩ := hCX
  obtain ⟨hat, hB⟩ := hH.at e1 (by simp)
  refine W.zast hex hb hat (isA (t := 2) hTB rfl) (fun q => by cases q) (by show ¬ (i < 0 ∨ (arrV _ _ _).slots.size ≤ _); rw [arrV_size]; exact hin) rfl rfl hdec fun H1 e2 z oq => ?_
  refine kk H1 _ (hH.upd e1 (by simp) z oq rfl (fun a' q' hne => eOf_wi q' hne) (fun h0 => by funext j; simp [wi, Ne.symm h0]) ?_) (loc_app hlo hB)
  show H1[rho b B a]? = some (vp_cell _ _)
  rw [e2]
  show some ((vp_cell (cA 2) (n, .inl (h.2.1 a))).setSlot _ (.int (x &&& 1))) = some (vp_cell (cA 2) (n, .inl ((wi h a i.toNatClampNeg (x &&& 1)).2.1 a)))
  rw [vp_cell_i, vp_cell_i, arrV_store]
  congr 2
  funext j
  by_cases hj : j = i.toNatClampNeg
  · subst hj
    simp [updV, wi]
  · simp [updV, wi, hj]
theorem sd_last (hCX : CX p s m args meth c q) (hTB : TB D cA cS s) (hdec : decode q.2.1 pc = .ok (.lastore, 1)) (hH : HR D cA cS b B h H) (hlo : ∀ x ∈ locs, B ≤ x.base) {i : Int32} {x : Int64} {n : Nat} (e1 : hs h a = some (1, n)) (hin : vp_in i n)
    (kk : ∀ (H1 : Heap) (locs1 : List Loc), HR D cA cS b B (wl h a i.toNatClampNeg x) H1 → (∀ x ∈ locs1, B ≤ x.base) → W p l e R s m args below meth c H1 locs1 cells slots Z (F0 m (pc + 1) lsC rest)) : W p l e R s m args below meth c H locs cells slots Z (F0 m pc lsC (.long x :: .int i :: .ref (rho b B a) :: rest)) := by
  obtain ⟨hex, hb, -⟩ := hCX
  obtain ⟨hat, hB⟩ := hH.at e1 (by simp)
  refine W.last hex hb hat (isA (t := 1) hTB rfl) (fun q => by cases q) (by show ¬ (i < 0 ∨ (arrV _ _ _).slots.size ≤ _); rw [arrV_size]; exact hin) rfl rfl hdec fun H1 e2 z oq => ?_
  refine kk H1 _ (hH.upd e1 (by simp) z oq rfl (fun a' q' hne => eOf_wl q' hne) (fun h0 => rfl) ?_) (loc_app hlo hB)
  show H1[rho b B a]? = some (vp_cell _ _)
  rw [e2]
  show some ((vp_cell (cA 1) (n, .inr (.inl (h.2.2.1 a)))).setSlot _ _) = some (vp_cell (cA 1) (n, .inr (.inl ((wl h a i.toNatClampNeg x).2.2.1 a))))
  rw [vp_cell_l, vp_cell_l, arrV_store]
  congr 2
  funext j
  by_cases hj : j = i.toNatClampNeg
  · subst hj
    simp [updV, wl]
  · simp [updV, wl, hj]
theorem sd_aald (hCX : CX p s m args meth c q) (hTB : TB D cA cS s) (hdec : decode q.2.1 pc = .ok (.aaload, 1)) (hH : HR D cA cS b B h H) {i : Int32} {t n j : Nat} (e1 : hs h a = some (t, n)) (ht : t = 3 ∨ t = 4 ∨ t = 5) (hin : vp_in i n) (hj : mr h a i.toNatClampNeg = some j)
    (kk : W p l e R s m args below meth c H locs cells slots Z (F0 m (pc + 1) lsC (.ref (rho b B j) :: rest))) : W p l e R s m args below meth c H locs cells slots Z (F0 m pc lsC (.int i :: .ref (rho b B a) :: rest)) := by
  obtain ⟨hex, hb, -⟩ := hCX
  have hj : h.2.2.2 a i.toNatClampNeg = some j := hj
  have e3 : va_rf ((h.2.2.2 a i.toNatClampNeg).map (rho b B)) = .ref (rho b B j) := by rw [hj]; rfl
  rcases ht with rfl | rfl | rfl
  · exact va_aldq hex hb hTB.1 (hH.P e1 (by simp) rfl) 0 3 rfl rfl hin hdec (by rw [e3]; exact kk)
  · exact va_aldq hex hb hTB.1 (hH.P e1 (by simp) rfl) 0 4 rfl rfl hin hdec (by rw [e3]; exact kk)
  · exact va_aldq hex hb hTB.1 (hH.P e1 (by simp) rfl) 0 5 rfl rfl hin hdec (by rw [e3]; exact kk)
theorem sd_aast1 (hCX : CX p s m args meth c q) (hTB : TB D cA cS s) (hdec : decode q.2.1 pc = .ok (.aastore, 1)) (hH : HR D cA cS b B h H) (hlo : ∀ x ∈ locs, B ≤ x.base) {i : Int32} {t n j ci : Nat} {C : String} {T : u_T} {N : Nat} (e1 : hs h a = some (t, n)) (h9 : t ≠ 9) (hE : ∀ h', eOf cA b B h' a (t, n) = .inl (cA t, n, .inr (.inr (.inr (.inr fun k => (h'.2.2.2 a k).map (rho b B)))))) (hc : vwCl[ci]? = some (C, T, N)) (hty : (tysL cA)[t]? = some (cA t, .object C)) (e2 : hs h j = some (10 + ci, lenOf ci)) (hin : vp_in i n)
    (kk : ∀ (H1 : Heap) (locs1 : List Loc), HR D cA cS b B (wr h a i.toNatClampNeg j) H1 → (∀ x ∈ locs1, B ≤ x.base) → W p l e R s m args below meth c H1 locs1 cells slots Z (F0 m (pc + 1) lsC rest)) : W p l e R s m args below meth c H locs cells slots Z (F0 m pc lsC (.ref (rho b B j) :: .int i :: .ref (rho b B a) :: rest)) := by
  obtain ⟨hex, hb, -⟩ := hCX
  obtain ⟨hat, hB⟩ := hH.at e1 h9
  rw [hE] at hat
  have hv := (hH.at e2 (by simp; omega)).1
  rw [eOf_obj] at hv
  obtain ⟨r', hr', cellV, g1, g2, g3, -⟩ := hv
  have hlt : i.toNatClampNeg < n := Nat.not_le.mp fun q => hin (Or.inr q)
  have h0 : ¬ i < 0 := fun q => hin (Or.inl q)
  have hcls := (hTB.1.1 ci _ hc).2
  obtain ⟨kA, comp, k1, k2, k3, -⟩ := (hTB.1.2 t _ hty).2
  have hcomp : comp = D.1 ci := Option.some.inj (k3.symm.trans hcls.1)
  subst hcomp
  obtain ⟨kC, hkC, -⟩ := hcls.2
  refine W.aast hex hb hat (fun q h => by cases h) (fun h => by cases h) k1 k2 rfl hkC ⟨h0, by show _ < (arrV _ _ _).slots.size; rw [arrV_size]; exact hlt⟩ g1 (fun q h => by rw [g3] at h; cases h) (by rw [g2]; exact hkC) (by rw [g2]; exact va_assign hcls) rfl rfl hdec fun H1 e3 z oq => ?_
  refine kk H1 _ (hH.upd e1 h9 z oq rfl (fun a' q' hne => eOf_wr q' hne) (fun h0 => rfl) ?_) (loc_app hlo hB)
  rw [hE]
  show H1[rho b B a]? = some (vp_cell _ _)
  rw [e3]
  show some ((vp_cell (cA t) (n, .inr (.inr (.inr (.inr fun k => (h.2.2.2 a k).map (rho b B)))))).setSlot _ _) = _
  rw [vp_cell_q, vp_cell_q, arrV_store]
  congr 2
  funext k
  by_cases hk : k = i.toNatClampNeg
  · subst hk
    simp [updV, wr, va_rf]
  · simp [updV, wr, hk]
theorem sd_aast (hCX : CX p s m args meth c q) (hTB : TB D cA cS s) (hdec : decode q.2.1 pc = .ok (.aastore, 1)) (hH : HR D cA cS b B h H) (hlo : ∀ x ∈ locs, B ≤ x.base) {i : Int32} {t n j : Nat} (e1 : hs h a = some (t, n)) (hin : vp_in i n) (ht : (t = 3 ∧ hs h j = some (12, 7)) ∨ (t = 4 ∧ hs h j = some (10, 4)) ∨ (t = 5 ∧ hs h j = some (13, 3)))
    (kk : ∀ (H1 : Heap) (locs1 : List Loc), HR D cA cS b B (wr h a i.toNatClampNeg j) H1 → (∀ x ∈ locs1, B ≤ x.base) → W p l e R s m args below meth c H1 locs1 cells slots Z (F0 m (pc + 1) lsC rest)) : W p l e R s m args below meth c H locs cells slots Z (F0 m pc lsC (.ref (rho b B j) :: .int i :: .ref (rho b B a) :: rest)) := by
  rcases ht with ⟨rfl, e2⟩ | ⟨rfl, e2⟩ | ⟨rfl, e2⟩
  · exact sd_aast1 (ci := 2) hCX hTB hdec hH hlo e1 (by simp) (fun _ => rfl) rfl rfl e2 hin kk
  · exact sd_aast1 (ci := 0) hCX hTB hdec hH hlo e1 (by simp) (fun _ => rfl) rfl rfl e2 hin kk
  · exact sd_aast1 (ci := 3) hCX hTB hdec hH hlo e1 (by simp) (fun _ => rfl) rfl rfl e2 hin kk
theorem sd_alen (hCX : CX p s m args meth c q) (hTB : TB D cA cS s) (hdec : decode q.2.1 pc = .ok (.arraylength, 1)) (hH : HR D cA cS b B h H) {n : Nat} (e1 : hs h a = some (9, n))
    (kk : W p l e R s m args below meth c H locs cells slots Z (F0 m (pc + 1) lsC (.int (nI n) :: rest))) : W p l e R s m args below meth c H locs cells slots Z (F0 m pc lsC (.ref (rho b B a) :: rest)) := by
  obtain ⟨hex, hb, -⟩ := hCX
  have h0 : a = 0 := by
    cases a with
    | zero => rfl
    | succ a => exact absurd rfl (hH.2.2.2 a _ e1).1
  subst h0
  obtain ⟨L, scr, s1, s2, s3, s4, s5, s6, s7⟩ := hH.2.2.1
  obtain ⟨-, -, -, k, comp, k1, k2⟩ := hTB
  have hL : L = n := by have := s1.symm.trans e1; simp at this; exact this
  subst hL
  exact W.alen hex hb s2 ⟨s5, k, by rw [s3]; exact k1, comp, k2⟩ (by rw [s6]; rfl) rfl rfl hdec kk
theorem sd_new (hCX : CX p s m args meth c q) (hTB : TB D cA cS s) (hdec : decode q.2.1 pc = .ok (.new idx, 3)) {ci : Nat} (hl : lk clsT q.2.2.2.2.1 idx = some ci) (hH : HR D cA cS b B h H) (hcells : cells + 1 ≤ R.cells) (hslots : slots + lenOf ci ≤ R.slots)
    (kk : ∀ (H1 : Heap), HR D cA cS b B (hn h (10 + ci) (lenOf ci)) H1 → W p l e R s m args below meth c H1 locs (cells + 1) (slots + lenOf ci) Z (F0 m (pc + 3) lsC (.ref (rho b B h.1.length) :: rest))) : W p l e R s m args below meth c H locs cells slots Z (F0 m pc lsC rest) := by
  obtain ⟨hex, hb, hml, hrt, hown, hnm, hlk, hts⟩ := hCX
  have hmem := lk_mem hl
  have h8 : ci < 8 := by
    have := List.all_eq_true.mp ok_K _ hmem
    exact Nat.lt_of_lt_of_le (Nat.lt_succ_self _) (Nat.le_of_ble_eq_true this)
  have w1 := hts _ (gw_in (wd_cls _ hmem) rfl)
  have w2 := hts _ (gw_in (wd_ins _ hmem) rfl)
  have w3 := hts _ (gw_in (wd_clsN _ hmem) rfl)
  obtain ⟨T, hc⟩ : ∃ T, vwCl[ci]? = some (ow ci, T, lenOf ci) := by
    match ci, h8 with
    | 0, _ => exact ⟨_, rfl⟩
    | 1, _ => exact ⟨_, rfl⟩
    | 2, _ => exact ⟨_, rfl⟩
    | 3, _ => exact ⟨_, rfl⟩
    | 4, _ => exact ⟨_, rfl⟩
    | 5, _ => exact ⟨_, rfl⟩
    | 6, _ => exact ⟨_, rfl⟩
    | 7, _ => exact ⟨_, rfl⟩
    | k + 8, h => omega
  have hKn := hTB.1.1 ci _ hc
  refine W.newcK hex hb hown w1 w2 w3 rfl hdec hcells hslots hKn.2.1 rfl fun H1 kC hkC e1 z1 o1 => ?_
  have hb1 := u_born (tyA ci) hts (lay_in hc) hKn hkC e1 (ty_ok hc).1
  obtain ⟨hH1, hrho⟩ := hH.new (t := 10 + ci) (n := lenOf ci) z1 o1 (by omega) (by
    rw [eOf_obj]
    refine ⟨_, hc, hb1.to fun k hk => ?_⟩
    have hk : k < lenOf ci := hk
    simp only [vp_V, List.getD_eq_getElem?_getD, List.getElem?_map, List.getElem?_range hk, Option.map_some, Option.getD_some]
    have i1 : (hn h (10 + ci) (lenOf ci)).2.1 h.1.length k = 0 := by simp [hn]
    have i2 : (hn h (10 + ci) (lenOf ci)).2.2.2 h.1.length k = none := by simp [hn]
    unfold fvl
    rw [i1, i2]
    have hnl : ¬ (tyA ci k = .long ∨ tyA ci k = .float ∨ tyA ci k = .double) := by
      revert hk
      have hall : (List.range 8).all (fun ci => (List.range (lenOf ci)).all fun k => decide (¬ (tyA ci k = .long ∨ tyA ci k = .float ∨ tyA ci k = .double))) = true := by decide +kernel
      intro hk
      have h1 := List.all_eq_true.mp hall ci (List.mem_range.mpr h8)
      have h2 := List.all_eq_true.mp h1 k (List.mem_range.mpr hk)
      exact of_decide_eq_true h2
    revert hnl
    generalize tyA ci k = ty
    intro hnl
    cases ty <;> first | rfl | (exact absurd (by simp) hnl))
  rw [← hrho]
  exact kk H1 hH1
theorem cls_find (hTB : TB D cA cS s) {t : Nat} {ty : FieldType} (ht : (tysL cA)[t]? = some (cA t, ty)) : s.vm.findClass ("[" ++ ty.toString) = some (cA t) := by
  have h := (hTB.1.2 t _ ht).2
  revert h
  generalize cA t = ca
  cases ty <;> intro h <;> first | exact h | (obtain ⟨kA, comp, -, -, -, h4⟩ := h; exact h4)
theorem sd_newp (hCX : CX p s m args meth c q) (hTB : TB D cA cS s) {at' : ArrayType} (hdec : decode q.2.1 pc = .ok (.newarray at', 2)) {t : Nat} (ht : (t = 0 ∧ at' = .int) ∨ (t = 1 ∧ at' = .long) ∨ (t = 2 ∧ at' = .boolean)) (hH : HR D cA cS b B h H) {x : Int32} (hx : ¬ x < 0) (hx4 : x.toNatClampNeg ≤ 400) (hcells : cells + 1 ≤ R.cells) (hslots : slots + x.toNatClampNeg ≤ R.slots)
    (kk : ∀ (H1 : Heap), HR D cA cS b B (hn h t x.toNatClampNeg) H1 → W p l e R s m args below meth c H1 locs (cells + 1) (slots + x.toNatClampNeg) Z (F0 m (pc + 2) lsC (.ref (rho b B h.1.length) :: rest))) : W p l e R s m args below meth c H locs cells slots Z (F0 m pc lsC (.int x :: rest)) := by
  obtain ⟨hex, hb, hml, hrt, hown, hnm, hlk, hts⟩ := hCX
  have i1 : (hn h t x.toNatClampNeg).2.1 h.1.length = fun _ => 0 := by funext j; simp [hn]
  have i3 : (hn h t x.toNatClampNeg).2.2.1 h.1.length = fun _ => 0 := by funext j; simp [hn]
  rcases ht with ⟨rfl, rfl⟩ | ⟨rfl, rfl⟩ | ⟨rfl, rfl⟩
  · refine va_newaK (atype := .int) hex hb (hts _ (gw_in wd_arr_int rfl)) rfl hdec rfl hx rfl (by show _ * 4 ≤ _; omega) hcells hslots rfl fun H1 ca e1 z1 o1 hAr hNm => ?_
    have hca : ca = cA 0 := Option.some.inj (hNm.symm.trans (cls_find (t := 0) hTB rfl))
    subst hca
    obtain ⟨hH1, hrho⟩ := hH.new (t := 0) (n := x.toNatClampNeg) z1 o1 (by omega) (by
      show H1[H.size]? = some (vp_cell (cA 0) (x.toNatClampNeg, .inl ((hn h 0 x.toNatClampNeg).2.1 h.1.length)))
      rw [i1, e1]
      rfl)
    rw [← hrho]
    exact kk H1 hH1
  · refine va_newaK (atype := .long) hex hb (hts _ (gw_in wd_arr_long rfl)) rfl hdec rfl hx rfl (by show _ * 8 ≤ _; omega) hcells hslots rfl fun H1 ca e1 z1 o1 hAr hNm => ?_
    have hca : ca = cA 1 := Option.some.inj (hNm.symm.trans (cls_find (t := 1) hTB rfl))
    subst hca
    obtain ⟨hH1, hrho⟩ := hH.new (t := 1) (n := x.toNatClampNeg) z1 o1 (by omega) (by
      show H1[H.size]? = some (vp_cell (cA 1) (x.toNatClampNeg, .inr (.inl ((hn h 1 x.toNatClampNeg).2.2.1 h.1.length))))
      rw [i3, e1]
      rfl)
    rw [← hrho]
    exact kk H1 hH1
  · refine va_newaK (atype := .boolean) hex hb (hts _ (gw_in wd_arr_boolean rfl)) rfl hdec rfl hx rfl (by show _ * 1 ≤ _; omega) hcells hslots rfl fun H1 ca e1 z1 o1 hAr hNm => ?_
    have hca : ca = cA 2 := Option.some.inj (hNm.symm.trans (cls_find (t := 2) hTB rfl))
    subst hca
    obtain ⟨hH1, hrho⟩ := hH.new (t := 2) (n := x.toNatClampNeg) z1 o1 (by omega) (by
      show H1[H.size]? = some (vp_cell (cA 2) (x.toNatClampNeg, .inl ((hn h 2 x.toNatClampNeg).2.1 h.1.length)))
      rw [i1, e1]
      rfl)
    rw [← hrho]
    exact kk H1 hH1
theorem sd_newr (hCX : CX p s m args meth c q) (hTB : TB D cA cS s) (hdec : decode q.2.1 pc = .ok (.anewarray idx, 3)) {t ci : Nat} {C : String} (hC : ow ci = C) (hl : lk clsT q.2.2.2.2.1 idx = some ci) (hao : va_AO C s) (hty : (tysL cA)[t]? = some (cA t, .object C)) (h9 : t ≠ 9) (hE : ∀ h' a n, eOf cA b B h' a (t, n) = .inl (cA t, n, .inr (.inr (.inr (.inr fun k => (h'.2.2.2 a k).map (rho b B)))))) (hH : HR D cA cS b B h H) {x : Int32} (hx : ¬ x < 0) (hx4 : x.toNatClampNeg ≤ 400) (hcells : cells + 1 ≤ R.cells) (hslots : slots + x.toNatClampNeg ≤ R.slots)
    (kk : ∀ (H1 : Heap), HR D cA cS b B (hn h t x.toNatClampNeg) H1 → W p l e R s m args below meth c H1 locs (cells + 1) (slots + x.toNatClampNeg) Z (F0 m (pc + 3) lsC (.ref (rho b B h.1.length) :: rest))) : W p l e R s m args below meth c H locs cells slots Z (F0 m pc lsC (.int x :: rest)) := by
  obtain ⟨hex, hb, hml, hrt, hown, hnm, hlk, hts⟩ := hCX
  have w1 := hts _ (gw_in (wd_cls _ (lk_mem hl)) rfl)
  dsimp only at w1
  rw [hC] at w1
  refine W.anew hex hb hown w1 (va_AO.use hao) rfl hdec rfl hx (by omega) hcells hslots fun ca kA comp f1 f2 f3 f4 => ?_
  have hca : ca = cA t := Option.some.inj (f1.symm.trans (cls_find (t := t) hTB hty))
  subst hca
  generalize hH1 : H.push ({ cls := cA t, slots := Array.replicate x.toNatClampNeg .null, vm := .none } : Cell) = H1
  have z1 : H1.size = H.size + 1 := by rw [← hH1, Array.size_push]
  have e1 : H1[H.size]? = some (arrV (cA t) x.toNatClampNeg (fun _ => .null)) := by rw [← hH1, Array.getElem?_push_size, ← arrV_new]
  have o1 : ∀ q : Nat, q < H.size → H1[q]? = H[q]? := fun q hq => by rw [← hH1, Array.getElem?_push, if_neg (Nat.ne_of_lt hq)]
  obtain ⟨hH2, hrho⟩ := hH.new (t := t) (n := x.toNatClampNeg) z1 o1 h9 (by
    rw [hE]
    show H1[H.size]? = some (vp_cell _ _)
    rw [vp_cell_q, e1]
    have i2 : ∀ k, (hn h t x.toNatClampNeg).2.2.2 h.1.length k = none := by intro k; simp [hn]
    simp only [i2]
    rfl)
  rw [← hrho]
  exact kk H1 hH2
end MEM

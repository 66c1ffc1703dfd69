/-! value, isForced -/
def rPF (v a : Int32) (f : Nat → Nat → Int32) : Int32 := match ix v 4, ix a 6 with
  | some i, some m => f i m
  | _, _ => m1
theorem rPF_v {v a : Int32} {f : Nat → Nat → Int32} (e : ix v 4 = none) : rPF v a f = m1 := by unfold rPF; rw [e]
theorem rPF_a {v a : Int32} {f : Nat → Nat → Int32} (e : ix a 6 = none) : rPF v a f = m1 := by unfold rPF; rw [e]; cases ix v 4 <;> rfl
theorem rPF_s {v a : Int32} {f : Nat → Nat → Int32} {i m : Nat} (e : ix v 4 = some i) (e1 : ix a 6 = some m) : rPF v a f = f i m := by unfold rPF; rw [e, e1]
def envP (p : PT) (v : Nat) : Nat := (pE p).getD (p.2.2 v) 0
def rVal (S : St) (v a : Int32) : Int32 := rPF v a fun i m => if (sF S m).1.length = 0 then kE3 else nI ((pE (sP S i)).idxOf (fval (sP S i).1 (sP S i).2.1 (envP (sP S i)) (sF S m).1))
def rFor (S : St) (v a b : Int32) : Int32 := rPF v a fun i m => r1 b (sP S i).1 fun x => if (sF S m).1.length = 0 then kE3 else nI (if (fval (sP S i).1 (sP S i).2.1 (envP (sP S i)) (sF S m).1).testBit x = true then 1 else 0)
section VAL
variable {d g : Nat} {h : AH} {S : St} {K : Int32 → AH → Prop} {v a b : Int32}
theorem env_mem {p : PT} (wp : wPT p) : ∀ u, u < 3 → envP p u ∈ pE p := fun u hu => getD_mem (wp.2 u hu)
theorem frF {h1 : AH} {m : Nat} (hm : m < 6) (I : InvC h S) (e : Ext h h1) (s : same (fun q => q ≠ aF m + 2 ∧ q ≠ aF m + 3) h h1) : doneC S h h1 := by
  refine ⟨I.kx e (s.sm.sub fun q j hq => ?_), e, s.sm.sub fun q j hq => ?_⟩
  · simp only [PCx, aF] at *; omega
  · simp only [aF]; omega
theorem S_currentBits {i m : Nat} (hi : i < 4) (hm : m < 6) (W : WS S) (I : InvC h S) (h0 : (sF S m).1 ≠ []) (hK : ∀ h1, doneC S h h1 → fval (sP S i).1 (sP S i).2.1 (envP (sP S i)) (sF S m).1 ∈ pE (sP S i) → K (nI (fval (sP S i).1 (sP S i).2.1 (envP (sP S i)) (sF S m).1)) h1) : Ev (d + 4) g g m_F_currentBits 0 [.ref (aF m), .ref (aP i)] [] h (asI K) := by
  have fa := (I.1.fs m hm).2
  have fb := (I.1.ps i hi).2
  have wp := W.1 i hi
  have w := wp.1
  have P := I.2.1 i hi
  have hl : (pE (sP S i)).length ≤ 64 := elems_len (up := (sP S i).2.1) w.1.2
  have hab : aP i + 5 < aF m := by simp only [aP, aF]; omega
  have cf := I.2.2.2.1 m hm
  refine w_F_currentBits_0 fa fb ?_
  refine for_up (σ := AH) (fun k hh => Ev (d + 4) g g m_F_currentBits 2 [.ref (aF m), .ref (aP i), .int (nI k)] [] hh (asI K)) (fun k hh => Ext h hh ∧ same (fun q => q ≠ aF m + 2) h hh ∧ ∀ u, u < k → mi hh (aF m + 2) u = nI (envP (sP S i) u)) 3 (fun hh hI => ?_) (fun k hh hk hI ih => ?_) 0 h (Nat.zero_le _) ⟨Ext.rfl', same.rf, fun u hu => by omega⟩
  · obtain ⟨ee, sa, hv⟩ := hI
    refine w_F_currentBits_2 (fa.ext ee) (fb.ext ee) (br_le 3 3 rfl rfl (fun _ => ?_) (fun z => by omega))
    refine S_bitsOfValue (env := envP (sP S i)) (p := sF S m) hab w (env_mem wp) (fa.ext ee) (fb.ext ee) (P.keep sa.sm fun q j h1 h2 => by show q ≠ aF m + 2; omega) (W.2.2.1 m hm) h0 ⟨((sa _ (by omega)).1 0).trans cf.1, fun k hk => ((sa _ (by omega)).1 k).trans (cf.2 k hk)⟩ hv fun h1 e1 s1 _ mm _ => hK h1 (frF hm I (ee.trans e1) ((sa.sub fun q hq => hq.1).trans s1)) mm
  · obtain ⟨ee, sa, hv⟩ := hI
    have vk := wp.2 k hk
    refine w_F_currentBits_2 (fa.ext ee) (fb.ext ee) (br_le 3 k rfl rfl (fun z => by omega) (fun _ => ?_))
    rw [nI_clamp (n := k) (by omega), (sa (aP i + 5) (by omega)).1, P.2.2.2.2 k hk, nI_clamp (n := (sP S i).2.2 k) (by omega), (sa (aP i + 3) (by omega)).1, P.2.2.1.2.1 _ vk, nI_add]
    refine ⟨vp_in_nI hk (by decide), vp_in_nI (by omega) (by decide), vp_in_nI (by omega) (by decide), ih _ ⟨ee.trans (ext_wi _ _ _ _), sa.wi (fun q => q rfl), fun u hu => ?_⟩⟩
    by_cases c : u = k
    · subst c; exact mi_eq
    · rw [mi_nj c]; exact hv u (by omega)
theorem S_Fmiss {m : Nat} (hm : m < 6) (W : WS S) (I : InvC h S) (A : (sF S m).1.length = 0 → K (nI 1) h) (B : (sF S m).1 ≠ [] → K (nI 0) h) : Ev d g g m_F_isMissing 0 [.ref (aF m)] [] h (asI K) := by
  have hl := (W.2.2.1 m hm).2.1
  refine w_F_isMissing_0 (I.1.fs m hm).2 ?_
  rw [(I.2.2.2.1 m hm).1]
  exact br_ne (sF S m).1.length 0 rfl rfl A (fun z => B fun q => z (by rw [q]; rfl))
theorem len_ne {l : List Nat} (h : l ≠ []) : l.length ≠ 0 := fun z => h (List.length_eq_zero_iff.mp z)
theorem C_value (W : WS S) (I : InvC h S) (hK : ∀ h1, doneC S h h1 → K (rVal S v a) h1) : Ev (d + 5) g g m_C_value 0 [.ref A_x, .int v, .int a] [] h (asI K) := by
  unfold rVal at hK
  have bad : ∀ {x}, (rPF v a fun i m => if (sF S m).1.length = 0 then kE3 else nI ((pE (sP S i)).idxOf (fval (sP S i).1 (sP S i).2.1 (envP (sP S i)) (sF S m).1))) = x → K x h := fun e => by rw [e] at hK; exact hK h (doneC.rf I)
  refine w_C_value_0 I.1 (S_posetAt I.1 (fun e => ?_) (fun i hi _ fi e1 => ⟨fi, ?_⟩))
  · have kk := bad (rPF_v e)
    exact S_formulaAt I.1 (fun _ => kk) (fun l _ _ fp _ => ⟨fp, kk⟩)
  refine S_formulaAt I.1 (fun e => bad (rPF_a e)) (fun m hm _ fm e2 => ⟨fm, ?_⟩)
  rw [rPF_s e1 e2] at hK
  refine S_Fmiss hm W I (fun z _ => ⟨fun q => absurd q (by decide), fun _ => by rw [if_pos z] at hK; exact hK h (doneC.rf I)⟩) (fun z _ => ⟨fun _ => ?_, fun q => absurd rfl q⟩)
  rw [if_neg (len_ne z)] at hK
  have h6 := (W.1 i hi).1.1.2
  refine S_currentBits hi hm W I z fun h1 dn mm _ => ?_
  have x64 := el64 h6 mm
  rw [nI_clamp (by omega), (dn.1.2.1 i hi).2.2.1.2.2 _ mm]
  exact ⟨vp_in_nI x64 (by decide), hK h1 dn⟩
theorem C_isForced (W : WS S) (I : InvC h S) (hK : ∀ h1, doneC S h h1 → K (rFor S v a b) h1) : Ev (d + 5) g g m_C_isForced 0 [.ref A_x, .int v, .int a, .int b] [] h (asI K) := by
  unfold rFor at hK
  have bad : ∀ {x}, (rPF v a fun i m => r1 b (sP S i).1 fun x => if (sF S m).1.length = 0 then kE3 else nI (if (fval (sP S i).1 (sP S i).2.1 (envP (sP S i)) (sF S m).1).testBit x = true then 1 else 0)) = x → K x h := fun e => by rw [e] at hK; exact hK h (doneC.rf I)
  refine w_C_isForced_0 I.1 (S_posetAt I.1 (fun e => ?_) (fun i hi _ fi e1 => ⟨fi, ?_⟩))
  · have kk := bad (rPF_v e)
    exact S_formulaAt I.1 (fun _ => kk) (fun l _ _ fp _ => ⟨fp, kk⟩)
  refine S_formulaAt I.1 (fun e => bad (rPF_a e)) (fun m hm _ fm e2 => ⟨fm, ?_⟩)
  rw [rPF_s e1 e2] at hK
  have h6 := (W.1 i hi).1.1.2
  refine S_hasPoint fi (I.2.1 i hi).1.1 h6 fun _ => br_nb (fun e3 => by rw [r1_n e3] at hK; exact hK h (doneC.rf I)) (fun e3 => ?_)
  obtain ⟨x, ex⟩ := Option.isSome_iff_exists.mp e3
  rw [r1_s ex] at hK
  obtain ⟨lx, rfl⟩ := ix_some ex
  refine S_Fmiss hm W I (fun z _ => ⟨fun q => absurd q (by decide), fun _ => by rw [if_pos z] at hK; exact hK h (doneC.rf I)⟩) (fun z _ => ⟨fun _ => ?_, fun q => absurd rfl q⟩)
  rw [if_neg (len_ne z)] at hK
  refine S_currentBits hi hm W I z fun h1 dn mm _ => ?_
  rw [nm_tb _ (el64 h6 mm) x (by omega)]
  exact hK h1 dn
theorem S_MpresentBits {i m : Nat} (hi : i < 4) (hm : m < 6) (W : WS S) (I : InvM h S) (el : ELp (mi h M_elements) (mi h M_numberOf) (mi h A_M 5) (pE (sP S i))) (h0 : (sF S m).1 ≠ []) (hK : ∀ h1, doneM S h h1 → ELp (mi h1 M_elements) (mi h1 M_numberOf) (mi h1 A_M 5) (pE (sP S i)) → fval (sP S i).1 (sP S i).2.1 (envP (sP S i)) (sF S m).1 ∈ pE (sP S i) → K (nI (fval (sP S i).1 (sP S i).2.1 (envP (sP S i)) (sF S m).1)) h1) : Ev (d + 2) g g m_M_presentBits 0 [.ref A_M, .int (nI i), .int (nI m)] [] h (asI K) := by
  have wp := W.1 i hi
  have w := wp.1
  have hl : (pE (sP S i)).length ≤ 64 := elems_len (up := (sP S i).2.1) w.1.2
  have o := I.2.1 i hi
  have cf := I.2.2.2.1 m hm
  refine w_M_presentBits_0 I.1 ?_
  refine for_up (σ := AH) (fun k hh => Ev (d + 2) g g m_M_presentBits 2 [.ref A_M, .int (nI i), .int (nI m), .int (nI k)] [] hh (asI K)) (fun k hh => Ext h hh ∧ sm (fun q _ => q ≠ 84) h hh ∧ ∀ u, u < k → mi hh M_given u = nI (envP (sP S i) u)) 3 (fun hh hI => ?_) (fun k hh hk hI ih => ?_) 0 h (Nat.zero_le _) ⟨Ext.rfl', sm.rf, fun u hu => by omega⟩
  · obtain ⟨ee, sa, hv⟩ := hI
    refine w_M_presentBits_2 (I.1.ext ee) (br_le 3 3 rfl rfl (fun _ => ?_) (fun z => by omega))
    refine S_MvalueBits (env := envP (sP S i)) (p := sF S m) (by omega) hm w (env_mem wp) (I.1.ext ee) (o.1.keep sa (by decide) fun z _ => by show (75 : Nat) ≠ 84; decide) (W.2.2.1 m hm) h0 ⟨(sa _ _ (by show (81 : Nat) ≠ 84; decide)).1.trans cf.1, fun k hk => (sa _ _ (by show (80 : Nat) ≠ 84; decide)).1.trans (cf.2 k hk)⟩ hv fun h1 e1 s1 mm _ => ?_
    have sx : sm (fun q _ => q ≠ 84 ∧ q ≠ 85) h h1 := (sa.sub fun q j hq => hq.1).trans (s1.sub fun q j hq => hq.2)
    refine hK h1 ⟨I.keep W (ee.trans e1) (sx.sub fun q j hq => ?_), ee.trans e1, sx.sub fun q j hq => ?_⟩ ⟨(sx _ _ (by show (73 : Nat) ≠ 84 ∧ (73 : Nat) ≠ 85; decide)).1.trans el.1, fun k hk => (sx _ _ (by show (77 : Nat) ≠ 84 ∧ (77 : Nat) ≠ 85; decide)).1.trans (el.2.1 k hk), fun k hk => (sx _ _ (by show (78 : Nat) ≠ 84 ∧ (78 : Nat) ≠ 85; decide)).1.trans (el.2.2 k hk)⟩ mm
    · simp only [PMx, M_size, M_elements, M_numberOf, M_made, M_pending, M_given, M_stack, M_map, M_moved, M_up] at hq; omega
    · omega
  · obtain ⟨ee, sa, hv⟩ := hI
    have vk : (sP S i).2.2 k < (pE (sP S i)).length := wp.2 k hk
    refine w_M_presentBits_2 (I.1.ext ee) (br_le 3 k rfl rfl (fun z => by omega) (fun _ => ?_))
    rw [nI_ix3, nI_clamp (n := 3 * i + k) (by omega), (sa M_valued _ (by show (76 : Nat) ≠ 84; decide)).1, o.2 k hk, nI_clamp (n := (sP S i).2.2 k) (by omega), (sa M_elements _ (by show (77 : Nat) ≠ 84; decide)).1, el.2.1 _ vk, nI_add, nI_clamp (n := k) (by omega)]
    refine ⟨vp_in_nI (by omega) (by decide), vp_in_nI (by omega) (by decide), vp_in_nI (by omega) (by decide), ih _ ⟨ee.trans (ext_wi _ _ _ _), sa.wi (fun q => q rfl), fun u hu => ?_⟩⟩
    by_cases c : u = k
    · subst c; exact mi_eq
    · rw [mi_nj c]; exact hv u (by omega)
theorem doneM.tr {S' : St} {h1 h2 : AH} (A : doneM S h h1) (B : doneM S' h1 h2) : doneM S' h h2 := ⟨B.1, A.2.1.trans B.2.1, A.2.2.trans B.2.2⟩
theorem doneC.tr {S' : St} {h1 h2 : AH} (A : doneC S h h1) (B : doneC S' h1 h2) : doneC S' h h2 := ⟨B.1, A.2.1.trans B.2.1, A.2.2.trans B.2.2⟩
theorem br_Mmiss {m : Nat} {A B : Prop} (hm : m < 6) (W : WS S) (I : InvM h S) (f : (sF S m).1.length = 0 → A) (gg : (sF S m).1 ≠ [] → B) : (¬ mi h M_formulaSizes m = 0 → B) ∧ (mi h M_formulaSizes m = 0 → A) := by
  have hl := (W.2.2.1 m hm).2.1
  rw [(I.2.2.2.1 m hm).1, ← (W.2.2.1 m hm).1]
  exact br_ne (sF S m).1.length 0 rfl rfl f (fun z => gg fun q => z (by rw [q]; rfl))
theorem M_value (W : WS S) (I : InvM h S) (hK : ∀ h1, doneM S h h1 → K (rVal S v a) h1) : Ev (d + 3) g g m_M_value 0 [.ref A_M, .int v, .int a] [] h (asI K) := by
  unfold rVal at hK
  refine w_M_value_0 I.1 (S_fnd W I (fun e => by have := hK h (doneM.rf I); rw [rPF_v e] at this; exact this) (fun i hi hv e1 h1 dn el => ?_))
  refine S_isF' (fun e => by have := hK h1 dn; rw [rPF_a e] at this; exact this) (fun m hm hv2 e2 => ?_)
  subst hv hv2
  rw [rPF_s e1 e2] at hK
  rw [nI_clamp (n := m) (by omega)]
  have h6 := (W.1 i hi).1.1.2
  refine ⟨vp_in_nI hm (by decide), br_Mmiss hm W dn.1 (fun z => by have := hK h1 dn; rw [if_pos z] at this; exact this) (fun z => ?_)⟩
  rw [if_neg (len_ne z)] at hK
  refine S_MpresentBits hi hm W dn.1 el z fun h2 dn2 el2 mm _ => ?_
  have x64 := el64 h6 mm
  rw [nI_clamp (by omega), el2.2.2 _ mm]
  exact ⟨vp_in_nI x64 (by decide), hK h2 (dn.tr dn2)⟩
theorem M_isForced (W : WS S) (I : InvM h S) (hK : ∀ h1, doneM S h h1 → K (rFor S v a b) h1) : Ev (d + 3) g g m_M_isForced 0 [.ref A_M, .int v, .int a, .int b] [] h (asI K) := by
  unfold rFor at hK
  refine w_M_isForced_0 I.1 (S_fnd W I (fun e => by have := hK h (doneM.rf I); rw [rPF_v e] at this; exact this) (fun i hi hv e1 h1 dn el => ?_))
  refine S_isF (fun e => by have := hK h1 dn; rw [rPF_a e] at this; exact this) (fun m hm hv2 e2 => ?_)
  subst hv hv2
  rw [rPF_s e1 e2] at hK
  have h6 := (W.1 i hi).1.1.2
  refine S_MisPoint dn.1.1 (by omega) (dn.1.2.1 i hi).1.1 h6 fun _ => br_nb (fun e3 => by have := hK h1 dn; rw [r1_n e3] at this; exact this) (fun e3 => ?_)
  obtain ⟨x, ex⟩ := Option.isSome_iff_exists.mp e3
  rw [r1_s ex] at hK
  obtain ⟨lx, rfl⟩ := ix_some ex
  rw [nI_clamp (n := m) (by omega)]
  refine ⟨vp_in_nI hm (by decide), br_Mmiss hm W dn.1 (fun z => by have := hK h1 dn; rw [if_pos z] at this; exact this) (fun z => ?_)⟩
  rw [if_neg (len_ne z)] at hK
  refine S_MpresentBits hi hm W dn.1 el z fun h2 dn2 el2 mm _ => ?_
  rw [nm_tb _ (el64 h6 mm) x (by omega)]
  exact hK h2 (dn.tr dn2)
end VAL

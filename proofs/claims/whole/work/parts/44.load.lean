/-! loadOrder -/
theorem prk_le {up : Nat → Nat} : ∀ n, (∀ x, x < n → up x < 64) → prk up n ≤ 6 * n
  | 0, _ => Nat.le_refl _
  | n + 1, h => by
    have i1 := prk_le n fun x hx => h x (by omega)
    have i2 := pop_le (gt up n) (and64 (h n (by omega)))
    show prk up n + pop (gt up n) ≤ _
    omega
theorem oRel_ans {S : St} (W : WS S) (v a b : Int32) : oRel S v a b = (m1, S) ∨ oRel S v a b = (kE4, S) ∨ ∃ p, p < 2147483648 ∧ (oRel S v a b).1 = nI p := by
  cases e : ix v 4 with
  | none => exact Or.inl (oRel_n e)
  | some i =>
    cases e1 : ix a (sP S i).1 with
    | none => exact Or.inl (oRel_a e (by rw [e1]; rfl))
    | some x =>
      cases e2 : ix b (sP S i).1 with
      | none => exact Or.inl (oRel_b e (by rw [e2]; rfl))
      | some y =>
        rw [oRel_s e e1 e2]
        have w := (W.1 i (ix_some e).1).1
        unfold oRel2
        by_cases hc : x ≠ y ∧ le (sP S i).2.1 y x = true
        · rw [if_pos hc]; exact Or.inr (Or.inl rfl)
        · rw [if_neg hc]
          have wR := upR_wf w (ix_some e1).1 (ix_some e2).1 fun hz => Classical.byContradiction fun hne => hc ⟨hne, hz⟩
          have := prk_le (up := upR (sP S i).2.1 x y) (sP S i).1 fun z hz => wR.u64 hz
          have h6 := w.1.2
          exact Or.inr (Or.inr ⟨_, by omega, rfl⟩)
theorem oRel_R {S : St} {v a b : Int32} : sR (oRel S v a b).2 = sR S ∧ sL (oRel S v a b).2 = sL S := by
  cases e : ix v 4 with
  | none => rw [oRel_n e]; exact ⟨rfl, rfl⟩
  | some i =>
    cases e1 : ix a (sP S i).1 with
    | none => rw [oRel_a e (by rw [e1]; rfl)]; exact ⟨rfl, rfl⟩
    | some x =>
      cases e2 : ix b (sP S i).1 with
      | none => rw [oRel_b e (by rw [e2]; rfl)]; exact ⟨rfl, rfl⟩
      | some y =>
        rw [oRel_s e e1 e2]
        unfold oRel2
        split <;> exact ⟨rfl, rfl⟩
theorem oRel_L {S : St} {v a b : Int32} {t : Nat} : oRel (setL S t) v a b = ((oRel S v a b).1, setL (oRel S v a b).2 t) := by
  cases e : ix v 4 with
  | none => rw [oRel_n e, oRel_n e]
  | some i =>
    cases e1 : ix a (sP S i).1 with
    | none => rw [oRel_a (S := S) (b := b) e (by rw [e1]; rfl)]; exact oRel_a (S := setL S t) e (congrArg Option.isSome e1)
    | some x =>
      cases e2 : ix b (sP S i).1 with
      | none => rw [oRel_b (S := S) (a := a) e (by rw [e2]; rfl)]; exact oRel_b (S := setL S t) e (congrArg Option.isSome e2)
      | some y =>
        rw [oRel_s e e1 e2, oRel_s (S := setL S t) e e1 e2]
        unfold oRel2
        show (if x ≠ y ∧ le (sP S i).2.1 y x = true then (kE4, setL S t) else (nI (prk (upR (sP S i).2.1 x y) (sP S i).1), setP (setL S t) i ((sP S i).1, upR (sP S i).2.1 x y, fun _ => 0))) = _
        by_cases hc : x ≠ y ∧ le (sP S i).2.1 y x = true
        · rw [if_pos hc, if_pos hc]
        · rw [if_neg hc, if_neg hc]; rfl
/-- m pairs from the pair k on: how many went, why it ended, the state -/
def ldL (i : Nat) (f : Nat → Int32) : Nat → Nat → St → Nat × Nat × St
  | 0, k, S => (k, 0, S)
  | m + 1, k, S => if (oRel S (nI i) (f (2 * k)) (f (2 * k + 1))).1 = m1 then (k, 1, S) else if (oRel S (nI i) (f (2 * k)) (f (2 * k + 1))).1 = kE4 then (k, 2, S) else ldL i f m (k + 1) (oRel S (nI i) (f (2 * k)) (f (2 * k + 1))).2
theorem ldL_L {i : Nat} {f : Nat → Int32} {t : Nat} : ∀ m k S, ldL i f m k (setL S t) = ((ldL i f m k S).1, (ldL i f m k S).2.1, setL (ldL i f m k S).2.2 t)
  | 0, _, _ => rfl
  | m + 1, k, S => by
    unfold ldL
    rw [oRel_L]
    by_cases c1 : (oRel S (nI i) (f (2 * k)) (f (2 * k + 1))).1 = m1
    · rw [if_pos c1, if_pos c1]
    · rw [if_neg c1, if_neg c1]
      by_cases c2 : (oRel S (nI i) (f (2 * k)) (f (2 * k + 1))).1 = kE4
      · rw [if_pos c2, if_pos c2]
      · rw [if_neg c2, if_neg c2]
        exact ldL_L m (k + 1) _
theorem ldL_W {i : Nat} {f : Nat → Int32} : ∀ m k S, WS S → WS (ldL i f m k S).2.2 ∧ (ldL i f m k S).2.1 < 3
  | 0, _, _, W => ⟨W, by show 0 < 3; decide⟩
  | m + 1, k, S, W => by
    unfold ldL
    by_cases c1 : (oRel S (nI i) (f (2 * k)) (f (2 * k + 1))).1 = m1
    · rw [if_pos c1]; exact ⟨W, by show 1 < 3; decide⟩
    · rw [if_neg c1]
      by_cases c2 : (oRel S (nI i) (f (2 * k)) (f (2 * k + 1))).1 = kE4
      · rw [if_pos c2]; exact ⟨W, by show 2 < 3; decide⟩
      · rw [if_neg c2]; exact ldL_W m (k + 1) _ W.rel
def eL (n : Nat) : Nat := if n % 2 = 0 then 0 else 3
def oLd2 (S : St) (i : Nat) (p : RwT) : Int32 × St := match p with
  | none => (kE8, S)
  | some (_, n, f) => (nI (ldL i f (n / 2) 0 S).1, setL (ldL i f (n / 2) 0 S).2.2 (if (ldL i f (n / 2) 0 S).2.1 = 0 then eL n else (ldL i f (n / 2) 0 S).2.1))
def oLd (S : St) (v w : Int32) : Int32 × St := match ix v 3, ix w 4 with
  | some r, some i => oLd2 S i (sR S r)
  | _, _ => (m1, S)
theorem WS.atL {S : St} (W : WS S) {t : Nat} (ht : t < 4) : WS (setL S t) := ⟨W.1, W.2.1, W.2.2.1, W.2.2.2.1, W.2.2.2.2.1, W.2.2.2.2.2.1, ht⟩
section LD
variable {d g : Nat} {h : AH} {S : St} {K : Int32 → AH → Prop} {v w : Int32} {r i t n : Nat} {f : Nat → Int32}
theorem oLd_v (e : ix v 3 = none) : oLd S v w = (m1, S) := by unfold oLd; rw [e]
theorem oLd_w (e : ix w 4 = none) : oLd S v w = (m1, S) := by unfold oLd; rw [e]; cases ix v 3 <;> rfl
theorem oLd_s (e1 : ix v 3 = some r) (e2 : ix w 4 = some i) : oLd S v w = oLd2 S i (sR S r) := by unfold oLd; rw [e1, e2]
theorem eL_lt : eL n < 4 := by unfold eL; split <;> decide
theorem WS.ld (W : WS S) : WS (oLd S v w).2 := by
  cases e : ix v 3 with
  | none => rw [oLd_v e]; exact W
  | some r =>
    cases e1 : ix w 4 with
    | none => rw [oLd_w e1]; exact W
    | some i =>
      rw [oLd_s e e1]
      cases e2 : sR S r with
      | none => exact W
      | some p =>
        obtain ⟨t, n, f⟩ := p
        have q := ldL_W (i := i) (f := f) (n / 2) 0 S W
        refine WS.atL q.1 ?_
        split
        · exact eL_lt
        · omega
theorem S_extendOrder {j : Nat} {a b : Int32} (hj : j < 4) (W : WS S) (I : InvC h S) (hK : ∀ h1, doneC (oRel S (nI j) a b).2 h h1 → K (oRel S (nI j) a b).1 h1) : Ev (d + 4) g g m_P_extendOrder 0 [.ref (aP j), .int a, .int b] [] h (asI K) := by
  have e : ix (nI j) 4 = some j := ix_nI hj (by decide)
  have fp := (I.1.ps j hj).2
  have w := (W.1 j hj).1
  have o := (I.2.1 j hj).1
  refine w_P_extendOrder_0 fp (S_hasPoint fp o.1 w.1.2 fun _ => br_b (fun e1 => ?_) (fun e1 => S_hasPoint fp o.1 w.1.2 fun _ => br_nb (fun e2 => ?_) (fun e2 => ?_)))
  · rw [oRel_a e e1] at hK
    exact hK h (doneC.rf I)
  · rw [oRel_b e e2] at hK
    exact hK h (doneC.rf I)
  obtain ⟨x, hx⟩ := Option.isSome_iff_exists.mp e1
  obtain ⟨y, hy⟩ := Option.isSome_iff_exists.mp e2
  rw [oRel_s e hx hy] at hK
  obtain ⟨lx, rfl⟩ := ix_some hx
  obtain ⟨ly, rfl⟩ := ix_some hy
  have h6 := w.1.2
  unfold oRel2 at hK
  have run : ¬ (x ≠ y ∧ le (sP S j).2.1 y x = true) → Ev (d + 4) g g m_P_extendOrder 37 [.ref (aP j), .int (nI x), .int (nI y), .int (nI 0)] [] h (asI K) := fun hno => by
    rw [if_neg hno] at hK
    refine S_extendLoop fp o w lx ly (fun hz => Classical.byContradiction fun hne => hno ⟨hne, hz⟩) fun h1 ee ss pc => hK h1 ⟨InvC.atP hj I ee (ss.sm.sub fun q _ hq => ?_) pc, ee, ss.sm.sub fun q _ hq => ?_⟩
    · simp only [aP] at *; omega
    · simp only [aP] at *; omega
  refine br_eq x y rfl rfl (fun hz => run fun hq => hq.1 hz) (fun hz => S_below fp o w ly lx fun _ => br_b (fun hq => run fun hr => ?_) (fun hq => ?_))
  · rw [hq] at hr
    exact absurd hr.2 (by decide)
  · rw [if_pos ⟨hz, hq⟩] at hK
    exact hK h (doneC.rf I)
theorem nn_m1 : ¬ (0 : Int32) ≤ m1 ∧ ¬ (m1 : Int32) = kE4 := by decide
theorem nn_e4 : ¬ (0 : Int32) ≤ kE4 ∧ ¬ (kE4 : Int32) = m1 := by decide
theorem nn_nI {p : Nat} (hp : p < 2147483648) : ¬ nI p = m1 ∧ ¬ nI p = kE4 := ⟨fun z => nn_m1.1 (z ▸ nI_nn hp), fun z => nn_e4.1 (z ▸ nI_nn hp)⟩
theorem C_ldL {e0 : Nat} (hr : r < 3) (hi : i < 4) (ht : t < 3) (hn : n ≤ 30) : ∀ m k (S : St) (hh : AH), (2 * (m + k) = n ∨ 2 * (m + k) + 1 = n) → WS S → InvC hh S → sR S r = some (t, n, f) → sL S = e0 → Ext h hh → FrM h hh → (∀ h1, InvC h1 (setL (ldL i f m k S).2.2 (if (ldL i f m k S).2.1 = 0 then e0 else (ldL i f m k S).2.1)) → Ext h h1 → FrM h h1 → K (nI (ldL i f m k S).1) h1) → Ev (d + 5) g g m_C_loadOrder 58 [.ref A_x, unk, unk, .ref (aR r), .ref (aP i), .int (nI k), .int (nI (2 * k))] [] hh (asI K) := by
  intro m
  induction m with
  | zero =>
    intro k S hh hm W I er el ee fr hK
    obtain ⟨c1, c2, c3⟩ := rowCs I hr er
    refine w_C_loadOrder_58 I.1 (I.1.rs r hr).2 (I.1.ps i hi).2 ?_
    rw [nI_add]
    refine br_le n (2 * k + 1) c2 rfl (fun _ => ?_) (fun z => by omega)
    refine hK hh ?_ ee fr
    show InvC hh (setL S (if (0 : Nat) = 0 then e0 else 0))
    rw [if_pos rfl, ← el]
    exact I
  | succ m ih =>
    intro k S hh hm W I er el ee fr hK
    obtain ⟨c1, c2, c3⟩ := rowCs I hr er
    refine w_C_loadOrder_58 I.1 (I.1.rs r hr).2 (I.1.ps i hi).2 ?_
    rw [nI_add (2 * k) 1, nI_add k 1, nI_add (2 * k) 2, nI_clamp (n := 2 * k) (by omega), nI_clamp (n := 2 * k + 1) (by omega), c3 _ (by omega), c3 _ (by omega)]
    refine br_le n (2 * k + 1) c2 rfl (fun z => by omega) (fun _ => ⟨vp_in_nI (by omega) (by decide), vp_in_nI (by omega) (by decide), ?_⟩)
    refine S_extendOrder hi W I fun h1 dn _ => ?_
    obtain ⟨I1, e1, f1⟩ := dn
    unfold ldL at hK
    rcases oRel_ans W (nI i) (f (2 * k)) (f (2 * k + 1)) with q | q | ⟨p, hp, q⟩
    · rw [q, if_pos rfl] at hK
      rw [q] at I1 ⊢
      refine ⟨fun z => absurd z nn_m1.1, fun _ => ⟨fun _ => ?_, fun z => absurd z nn_m1.2⟩⟩
      exact hK _ (InvC.atL I1 (ext_wi _ _ _ _) (sm.rf.wi (fun z => z.2 ⟨rfl, rfl⟩)) mi_eq) ((ee.trans e1).trans (ext_wi _ _ _ _)) ((fr.trans f1).wi (by decide))
    · rw [q, if_neg nn_e4.2, if_pos rfl] at hK
      rw [q] at I1 ⊢
      refine ⟨fun z => absurd z nn_e4.1, fun _ => ⟨fun z => absurd rfl z, fun _ => ?_⟩⟩
      exact hK _ (InvC.atL I1 (ext_wi _ _ _ _) (sm.rf.wi (fun z => z.2 ⟨rfl, rfl⟩)) mi_eq) ((ee.trans e1).trans (ext_wi _ _ _ _)) ((fr.trans f1).wi (by decide))
    · have n1 := nn_nI hp
      rw [q, if_neg n1.1, if_neg n1.2] at hK
      rw [q]
      refine ⟨fun _ => ?_, fun z => absurd (nI_nn hp) z⟩
      exact ih (k + 1) _ h1 (by omega) W.rel I1 (by rw [oRel_R.1]; exact er) (by rw [oRel_R.2]; exact el) (ee.trans e1) (fr.trans f1) hK
theorem C_loadOrder (W : WS S) (I : InvC h S) (hK : ∀ h1, doneC (oLd S v w).2 h h1 → K (oLd S v w).1 h1) : Ev (d + 5) g g m_C_loadOrder 0 [.ref A_x, .int v, .int w] [] h (asI K) := by
  have bad : oLd S v w = (m1, S) → K m1 h := fun e => by rw [e] at hK; exact hK h (doneC.rf I)
  refine w_C_loadOrder_0 I.1 (S_rowAt I.1 (fun e => ?_) (fun r hr _ fr e1 => ⟨fr, ?_⟩))
  · have kk := bad (oLd_v e)
    exact S_posetAt I.1 (fun _ => kk) (fun l _ _ fp _ => ⟨fp, kk⟩)
  refine S_posetAt I.1 (fun e => bad (oLd_w e)) (fun i hi _ fi e2 => ⟨fi, ?_⟩)
  rw [oLd_s e1 e2] at hK
  cases e3 : sR S r with
  | none =>
    rw [e3] at hK
    exact S_missN fr (rowCn I hr e3) fun _ => ⟨fun z => absurd z (by decide), fun _ => hK h (doneC.rf I)⟩
  | some p =>
    obtain ⟨t, n, f⟩ := p
    rw [e3] at hK
    have w1 := W.2.2.2.2.2.1 r t n f hr e3
    have w12 := w1.2
    obtain ⟨c1, c2, c3⟩ := rowCs I hr e3
    refine S_missS fr c2 w1.2 fun _ => ⟨fun _ => ⟨by decide, ?_⟩, fun z => absurd rfl z⟩
    rw [c2, pk_rem (a := n) (d := 2) (by omega) (by decide) (by decide)]
    have go : ∀ z, z = eL n → Ev (d + 5) g g m_C_loadOrder 58 [.ref A_x, unk, unk, .ref (aR r), .ref (aP i), .int (nI 0), .int (nI 0)] [] (wi h A_x 7 (nI z)) (asI K) := fun z hz => by
      subst hz
      have I0 : InvC (wi h A_x 7 (nI (eL n))) (setL S (eL n)) := InvC.atL I (ext_wi _ _ _ _) (sm.rf.wi (fun z => z.2 ⟨rfl, rfl⟩)) mi_eq
      refine C_ldL (h := h) (e0 := eL n) hr hi w1.1 w1.2 (n / 2) 0 (setL S (eL n)) _ (by omega) (W.atL eL_lt) I0 e3 rfl (ext_wi _ _ _ _) (sm.rf.wi (by decide)) fun h1 J ee ff => ?_
      rw [ldL_L] at J ⊢
      exact hK h1 ⟨J, ee, ff⟩
    refine br_ne (n % 2) 0 rfl rfl (fun z => go 0 ?_) (fun z => go 3 ?_)
    · unfold eL; rw [if_pos z]
    · unfold eL; rw [if_neg z]
theorem nI_ix30c {k x : Nat} : nI 30 * nI k + nI 2 * nI x = nI (30 * k + 2 * x) := by rw [pk_mul, pk_mul, nI_add]
theorem M_ldL (hr : r < 3) (hi : i < 4) (ht : t < 3) (hn : n ≤ 30) : ∀ m k (S : St) (hh : AH), (2 * (m + k) = n ∨ 2 * (m + k) + 1 = n) → WS S → InvM hh S → sR S r = some (t, n, f) → sL S = 0 → Ext h hh → FrC h hh → (∀ h1, InvM h1 (setL (ldL i f m k S).2.2 (if (ldL i f m k S).2.1 = 0 then eL n else (ldL i f m k S).2.1)) → Ext h h1 → FrC h h1 → K (nI (ldL i f m k S).1) h1) → Ev (d + 3) g g m_M_loadOrder 35 [.ref A_M, .int (nI r), .int (nI i), .int (nI k)] [] hh (asI K) := by
  intro m
  have vr : vp_in (nI r) 3 := vp_in_nI hr (by decide)
  induction m with
  | zero =>
    intro k S hh hm W I er el ee fr hK
    obtain ⟨c1, c2, c3⟩ := rowMs I hr er
    have cf : mi hh A_M 32 = nI 0 := by rw [I.2.2.2.2.2.2.2, el]
    refine w_M_loadOrder_35 I.1 ⟨vr, ?_⟩
    rw [nI_clamp (n := r) (by omega), c2, cf, pk_mul, nI_add (2 * k) 1]
    have hK : ∀ h1, InvM h1 (setL S (eL n)) → Ext h h1 → FrC h h1 → K (nI k) h1 := hK
    refine br_le n (2 * k + 1) rfl rfl (fun _ => ⟨fun z => absurd rfl z, fun _ => ⟨vr, br_le n (2 * k) rfl rfl (fun z => ?_) (fun z => ?_)⟩⟩) (fun z => by omega)
    · refine hK hh ?_ ee fr
      have : eL n = 0 := by unfold eL; rw [if_pos (by omega)]
      rw [this, ← el]
      exact I
    · have : eL n = 3 := by unfold eL; rw [if_neg (by omega)]
      rw [this] at hK
      exact hK _ (InvM.atL W I (ext_wi _ _ _ _) (sm.rf.wi (fun z => z.2 ⟨rfl, rfl⟩)) mi_eq) (ee.trans (ext_wi _ _ _ _)) (fr.wi (by decide))
  | succ m ih =>
    intro k S hh hm W I er el ee fr hK
    obtain ⟨c1, c2, c3⟩ := rowMs I hr er
    have cf : mi hh A_M 32 = nI 0 := by rw [I.2.2.2.2.2.2.2, el]
    refine w_M_loadOrder_35 I.1 ⟨vr, ?_⟩
    rw [nI_ix30c, nI_add (30 * r + 2 * k) 1, nI_clamp (n := r) (by omega), c2, cf, pk_mul, nI_add (2 * k) 1, nI_add k 0, nI_add k 1, nI_clamp (n := 30 * r + 2 * k) (by omega), nI_clamp (n := 30 * r + 2 * k + 1) (by omega), c3 _ (by omega), Nat.add_assoc, c3 _ (by omega)]
    refine br_le n (2 * k + 1) rfl rfl (fun z => by omega) (fun _ => ⟨fun z => absurd rfl z, fun _ => ⟨vp_in_nI (by omega) (by decide), vp_in_nI (by omega) (by decide), ?_⟩⟩)
    refine M_relate W I fun h1 dn _ => ?_
    obtain ⟨I1, e1, f1⟩ := dn
    unfold ldL at hK
    rw [mi_eq, mi_eq, mi_eq]
    -- what comes behind a failing pair
    have stop : ∀ c, 0 < c → c < 3 → InvM h1 S → (∀ h1, InvM h1 (setL S c) → Ext h h1 → FrC h h1 → K (nI k) h1) → Ev (d + 3) g g m_M_loadOrder 35 [.ref A_M, .int (nI r), .int (nI i), .int (nI (k + 0))] [] (wi h1 A_M 32 (nI c)) (asI K) := fun c h0 h3 J hc => by
      have J2 : InvM (wi h1 A_M 32 (nI c)) (setL S c) := InvM.atL W J (ext_wi _ _ _ _) (sm.rf.wi (fun z => z.2 ⟨rfl, rfl⟩)) mi_eq
      have kk := hc _ J2 ((ee.trans e1).trans (ext_wi _ _ _ _)) ((fr.trans f1).wi (by decide))
      obtain ⟨d1, d2, d3⟩ := rowMs J2 hr er
      refine w_M_loadOrder_35 J2.1 ⟨vr, ?_⟩
      rw [nI_clamp (n := r) (by omega), d2, mi_eq, pk_mul, nI_add (2 * (k + 0)) 1]
      have nz : ¬ nI c = 0 := nI_ne0 h0 (by omega)
      refine br_le n (2 * (k + 0) + 1) rfl rfl (fun z => by omega) (fun _ => ⟨fun _ => ⟨fun _ => kk, fun z => absurd z nz⟩, fun z => absurd z nz⟩)
    rcases oRel_ans W (nI i) (f (2 * k)) (f (2 * k + 1)) with q | q | ⟨p, hp, q⟩
    · rw [q, if_pos rfl] at hK
      rw [q] at I1 ⊢
      refine ⟨fun z => absurd rfl z, fun _ => ⟨fun _ => stop 1 (by decide) (by decide) I1 hK, fun z => absurd z (by decide)⟩⟩
    · rw [q, if_neg nn_e4.2, if_pos rfl] at hK
      rw [q] at I1 ⊢
      refine ⟨fun _ => ⟨fun z => absurd rfl z, fun _ => ⟨fun _ => stop 2 (by decide) (by decide) I1 hK, fun z => absurd z (by decide)⟩⟩, fun z => absurd z nn_e4.2⟩
    · have n1 := nn_nI hp
      rw [q, if_neg n1.1, if_neg n1.2] at hK
      rw [q]
      refine ⟨fun _ => ⟨fun _ => ⟨fun z => absurd rfl z, fun _ => ?_⟩, fun z => absurd z n1.2⟩, fun z => absurd z n1.1⟩
      have er2 : sR (oRel S (nI i) (f (2 * k)) (f (2 * k + 1))).2 r = some (t, n, f) := by rw [oRel_R.1]; exact er
      have el2 : sL (oRel S (nI i) (f (2 * k)) (f (2 * k + 1))).2 = 0 := by rw [oRel_R.2]; exact el
      have J2 : InvM (wi h1 A_M 32 (nI 0)) (setL (oRel S (nI i) (f (2 * k)) (f (2 * k + 1))).2 0) := InvM.atL W.rel I1 (ext_wi _ _ _ _) (sm.rf.wi (fun z => z.2 ⟨rfl, rfl⟩)) mi_eq
      have J3 : InvM (wi h1 A_M 32 (nI 0)) (setL (oRel S (nI i) (f (2 * k)) (f (2 * k + 1))).2 (sL (oRel S (nI i) (f (2 * k)) (f (2 * k + 1))).2)) := by rw [el2]; exact J2
      exact ih (k + 1) _ _ (by omega) W.rel J3 er2 el2 ((ee.trans e1).trans (ext_wi _ _ _ _)) ((fr.trans f1).wi (by decide)) hK
theorem M_loadOrder (W : WS S) (I : InvM h S) (hK : ∀ h1, doneM (oLd S v w).2 h h1 → K (oLd S v w).1 h1) : Ev (d + 3) g g m_M_loadOrder 0 [.ref A_M, .int v, .int w] [] h (asI K) := by
  have bad : oLd S v w = (m1, S) → K m1 h := fun e => by rw [e] at hK; exact hK h (doneM.rf I)
  refine w_M_loadOrder_0 I.1 (S_isR (fun e => bad (oLd_v e)) (fun r hr hv e1 => (S_isP (fun e => bad (oLd_w e)) (fun i hi hw e2 => ?_)).mI fun x h1 _ kk e => (kk e).symm))
  subst hv hw
  rw [oLd_s e1 e2] at hK
  have vr : vp_in (nI r) 3 := vp_in_nI hr (by decide)
  rw [nI_clamp (n := r) (by omega)]
  cases e3 : sR S r with
  | none =>
    rw [e3] at hK
    rw [rowMn I hr e3]
    exact ⟨vr, fun z => absurd z m1_neg, fun _ => hK h (doneM.rf I)⟩
  | some p =>
    obtain ⟨t, n, f⟩ := p
    rw [e3] at hK
    have w1 := W.2.2.2.2.2.1 r t n f hr e3
    have w11 := w1.1
    obtain ⟨c1, c2, c3⟩ := rowMs I hr e3
    rw [c1]
    refine ⟨vr, fun _ => ?_, fun z => absurd (nI_nn (by omega)) z⟩
    have I0 : InvM (wi h A_M 32 (nI 0)) (setL S 0) := InvM.atL W I (ext_wi _ _ _ _) (sm.rf.wi (fun z => z.2 ⟨rfl, rfl⟩)) mi_eq
    refine M_ldL (h := h) hr hi w1.1 w1.2 (n / 2) 0 (setL S 0) _ (by omega) (W.atL (by decide)) I0 e3 rfl (ext_wi _ _ _ _) (sm.rf.wi (by decide)) fun h1 J ee ff => ?_
    rw [ldL_L] at J ⊢
    exact hK h1 ⟨J, ee, ff⟩
end LD

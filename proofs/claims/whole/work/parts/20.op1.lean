/-! operations that read one poset -/
abbrev kE2 : Int32 := cI (.negSucc 1)
def rPo (S : St) (v : Int32) (f : PT → Int32) : Int32 := match ix v 4 with
  | none => m1
  | some i => f (sP S i)
def r2 (a b : Int32) (n : Nat) (f : Nat → Nat → Int32) : Int32 := match ix a n, ix b n with
  | some x, some y => f x y
  | _, _ => m1
def r1 (a : Int32) (n : Nat) (f : Nat → Int32) : Int32 := match ix a n with
  | some x => f x
  | none => m1
theorem rPo_none {S : St} {v : Int32} {f : PT → Int32} (e : ix v 4 = none) : rPo S v f = m1 := by unfold rPo; rw [e]
theorem rPo_some {S : St} {v : Int32} {f : PT → Int32} {j : Nat} (e : ix v 4 = some j) : rPo S v f = f (sP S j) := by unfold rPo; rw [e]
theorem iS_none {v : Int32} {n : Nat} (e : (ix v n).isSome = false) : ix v n = none := by cases h : ix v n with | none => rfl | some x => rw [h] at e; cases e
theorem r2_n1 {a b : Int32} {n : Nat} {f : Nat → Nat → Int32} (e : (ix a n).isSome = false) : r2 a b n f = m1 := by unfold r2; rw [iS_none e]
theorem r2_n2 {a b : Int32} {n : Nat} {f : Nat → Nat → Int32} (e : (ix b n).isSome = false) : r2 a b n f = m1 := by unfold r2; rw [iS_none e]; cases ix a n <;> rfl
theorem r2_s {a b : Int32} {n x y : Nat} {f : Nat → Nat → Int32} (e1 : ix a n = some x) (e2 : ix b n = some y) : r2 a b n f = f x y := by unfold r2; rw [e1, e2]
theorem r1_n {a : Int32} {n : Nat} {f : Nat → Int32} (e : (ix a n).isSome = false) : r1 a n f = m1 := by unfold r1; rw [iS_none e]
theorem r1_s {a : Int32} {n x : Nat} {f : Nat → Int32} (e1 : ix a n = some x) : r1 a n f = f x := by unfold r1; rw [e1]
theorem x_split (x m : Int32) (h : x &&& (m ^^^ m1) = 0) : x &&& m = x := by
  apply Int32.toBitVec_inj.mp
  have h2 := congrArg Int32.toBitVec h
  apply BitVec.eq_of_getLsbD_eq
  intro i hi
  have h3 := congrArg (fun b => b.getLsbD i) h2
  have hm : (m1 : Int32).toBitVec.getLsbD i = true := by
    have : (m1 : Int32).toBitVec = BitVec.allOnes 32 := by decide
    rw [this, BitVec.getLsbD_allOnes]
    simpa using hi
  simp only [Int32.toBitVec_and, Int32.toBitVec_xor, BitVec.getLsbD_and, BitVec.getLsbD_xor, hm] at h3 ⊢
  have h4 : (0 : Int32).toBitVec.getLsbD i = false := by
    have : (0 : Int32).toBitVec = 0#32 := by decide
    rw [this]
    simp
  rw [h4] at h3
  cases hx : x.toBitVec.getLsbD i
  · rfl
  · rw [hx] at h3
    cases hmm : m.toBitVec.getLsbD i
    · rw [hmm] at h3; simp at h3
    · rfl
theorem msk_z : ∀ n, n < 7 → ∀ j, j < 2 ^ n → j &&& ((2 ^ n - 1) ^^^ 63) = 0 := by decide +kernel
theorem msk_bv : ∀ n, n < 7 → (nI (2 ^ n - 1)).toBitVec.toNat = 2 ^ n - 1 := by decide +kernel
theorem br_msk {v : Int32} {n : Nat} {A B : Prop} (h6 : n ≤ 6) (f : ∀ j, ix v (2 ^ n) = some j → A) (g : ix v (2 ^ n) = none → B) : ((v &&& (nI (2 ^ n - 1) ^^^ m1)) = 0 → A) ∧ (¬ (v &&& (nI (2 ^ n - 1) ^^^ m1)) = 0 → B) := by
  have hp := p2_le h6
  have hpp := p2_pos n
  constructor
  · intro h
    have e := x_split v _ h
    rw [pk_and v n (msk_bv n (by omega))] at e
    have hlt := Nat.mod_lt v.toBitVec.toNat hpp
    exact f _ (by rw [← e]; exact ix_nI hlt (by omega))
  · intro h
    apply g
    cases hx : ix v (2 ^ n) with
    | none => rfl
    | some j =>
      obtain ⟨hj, rfl⟩ := ix_some hx
      rw [nm_dif j (by omega) (2 ^ n - 1) (by omega), msk_z n (by omega) j hj] at h
      exact absurd rfl h
section OPC
variable {d g : Nat} {h : AH} {S : St}
theorem S_posetAt {v : Int32} {A : AH → Prop} {B : Nat → AH → Prop} (fC : is_C h) (hn : ix v 4 = none → A h) (hs : ∀ j, j < 4 → v = nI j → is_P h (aP j) → ix v 4 = some j → B (aP j) h) : Ev d g g m_C_posetAt 0 [.ref A_x, .int v] [] h (asR fun r h1 => Ext h h1 → (r = none → A h1) ∧ (∀ a, r = some a → B a h1)) := by
  refine w_C_posetAt_0 fC (br_ix (by omega) (fun e => ?_) (fun j e => ?_))
  · exact fun _ => ⟨fun _ => hn e, fun a ha => by cases ha⟩
  · obtain ⟨hj, rfl⟩ := ix_some e
    rw [nI_clamp (by omega)]
    refine ⟨vp_in_nI hj (by decide), aP j, (fC.ps j hj).1, fun _ => ⟨fun z => (by cases z), fun a ha => ?_⟩⟩
    cases ha
    exact hs j hj rfl (fC.ps j hj).2 e
variable {K : Int32 → AH → Prop}
theorem C_points {v : Int32} (I : InvC h S) (hK : K (rPo S v fun p => nI p.1) h) : Ev (d + 1) g g m_C_points 0 [.ref A_x, .int v] [] h (asI K) := by
  refine w_C_points_0 I.1 (S_posetAt I.1 (fun e => by rw [rPo_none e] at hK; exact hK) (fun j hj _ fp e => ⟨fp, ?_⟩))
  rw [rPo_some e] at hK
  rw [(I.2.1 j hj).1.1]
  exact hK
theorem C_elementCount {v : Int32} (I : InvC h S) (hK : K (rPo S v fun p => nI (pE p).length) h) : Ev (d + 1) g g m_C_elementCount 0 [.ref A_x, .int v] [] h (asI K) := by
  refine w_C_elementCount_0 I.1 (S_posetAt I.1 (fun e => by rw [rPo_none e] at hK; exact hK) (fun j hj _ fp e => ⟨fp, ?_⟩))
  rw [rPo_some e] at hK
  rw [(I.2.1 j hj).2.2.1.1]
  exact hK
theorem C_isBelow {v a b : Int32} (W : WS S) (I : InvC h S) (hK : K (rPo S v fun p => r2 a b p.1 fun x y => bI (le p.2.1 x y)) h) : Ev (d + 1) g g m_C_isBelow 0 [.ref A_x, .int v, .int a, .int b] [] h (asI K) := by
  refine w_C_isBelow_0 I.1 (S_posetAt I.1 (fun e => by rw [rPo_none e] at hK; exact hK) (fun j hj _ fp e => ⟨fp, ?_⟩))
  rw [rPo_some e] at hK
  have w := (W.1 j hj).1
  have o := (I.2.1 j hj).1
  refine S_hasPoint fp o.1 w.1.2 fun _ => br_b (fun e1 => ?_) (fun e1 => S_hasPoint fp o.1 w.1.2 fun _ => br_nb (fun e2 => ?_) (fun e2 => ?_))
  · rw [r2_n1 e1] at hK
    exact hK
  · rw [r2_n2 e2] at hK
    exact hK
  · obtain ⟨x, hx⟩ := Option.isSome_iff_exists.mp e1
    obtain ⟨y, hy⟩ := Option.isSome_iff_exists.mp e2
    rw [r2_s hx hy] at hK
    obtain ⟨lx, rfl⟩ := ix_some hx
    obtain ⟨ly, rfl⟩ := ix_some hy
    exact S_below fp o w lx ly fun _ => br_b (fun e3 => by rw [e3] at hK; exact hK) (fun e3 => by rw [e3] at hK; exact hK)
theorem C_elementBits {v a : Int32} (W : WS S) (I : InvC h S) (hK : K (rPo S v fun p => r1 a (pE p).length fun k => nI ((pE p).getD k 0)) h) : Ev (d + 1) g g m_C_elementBits 0 [.ref A_x, .int v, .int a] [] h (asI K) := by
  refine w_C_elementBits_0 I.1 (S_posetAt I.1 (fun e => by rw [rPo_none e] at hK; exact hK) (fun j hj _ fp e => ⟨fp, ?_⟩))
  rw [rPo_some e] at hK
  have hl := elems_len (up := (sP S j).2.1) (W.1 j hj).1.1.2
  have el := (I.2.1 j hj).2.2.1
  refine S_hasElement fp el.1 hl fun _ => br_nb (fun e1 => ?_) (fun e1 => ?_)
  · rw [r1_n e1] at hK
    exact hK
  · obtain ⟨x, hx⟩ := Option.isSome_iff_exists.mp e1
    rw [r1_s hx] at hK
    obtain ⟨lx, rfl⟩ := ix_some hx
    rw [nI_clamp (by omega), el.2.1 x lx]
    exact ⟨vp_in_nI (by omega) (by decide), hK⟩
theorem C_elementOf {v a : Int32} (W : WS S) (I : InvC h S) (hK : K (rPo S v fun p => match ix a (2 ^ p.1) with
    | none => kE2
    | some s => bif isUp p.1 p.2.1 s then nI ((pE p).idxOf s) else kNone) h) : Ev (d + 1) g g m_C_elementOf 0 [.ref A_x, .int v, .int a] [] h (asI K) := by
  refine w_C_elementOf_0 I.1 (S_posetAt I.1 (fun e => by rw [rPo_none e] at hK; exact hK) (fun j hj _ fp e => ⟨fp, ?_⟩))
  rw [rPo_some e] at hK
  have w := (W.1 j hj).1
  have h6 := w.1.2
  have hp := p2_le h6
  obtain ⟨o, -, el, nn, -⟩ := I.2.1 j hj
  refine S_allPoints fp o.1 h6 fun _ => br_msk h6 (fun s e1 => ?_) (fun e1 => ?_)
  · rw [e1] at hK
    obtain ⟨ls, rfl⟩ := ix_some e1
    rw [nI_clamp (by omega)]
    refine ⟨vp_in_nI (by omega) (by decide), ?_⟩
    cases hu : isUp (sP S j).1 (sP S j).2.1 s with
    | true =>
      dsimp only at hK
      rw [hu] at hK
      rw [el.2.2 s ((mem_elems h6).mpr ⟨ls, hu⟩)]
      exact hK
    | false =>
      dsimp only at hK
      rw [hu] at hK
      rw [nn s ls hu]
      exact hK
  · rw [e1] at hK
    exact hK
def rOp (S : St) (op : Nat) (v a b : Int32) : Int32 := rPo S v fun p => r2 a b (pE p).length fun x y => nI ((pE p).idxOf (opS p.1 p.2.1 op ((pE p).getD x 0) ((pE p).getD y 0)))
theorem S_combine {v a b : Int32} {op : Nat} (ho : op < 3) (W : WS S) (I : InvC h S) (hK : K (rOp S op v a b) h) : Ev (d + 3) g g m_C_combine 0 [.ref A_x, .int v, .int a, .int b, .int (nI op)] [] h (asI K) := by
  unfold rOp at hK
  refine w_C_combine_0 I.1 (S_posetAt I.1 (fun e => by rw [rPo_none e] at hK; exact hK) (fun j hj _ fp e => ⟨fp, ?_⟩))
  rw [rPo_some e] at hK
  have w := (W.1 j hj).1
  have hl := elems_len (up := (sP S j).2.1) w.1.2
  have P := I.2.1 j hj
  have el := P.2.2.1
  refine S_hasElement fp el.1 hl fun _ => br_b (fun e1 => ?_) (fun e1 => S_hasElement fp el.1 hl fun _ => br_nb (fun e2 => ?_) (fun e2 => ?_))
  · rw [r2_n1 e1] at hK
    exact hK
  · rw [r2_n2 e2] at hK
    exact hK
  · obtain ⟨x, hx⟩ := Option.isSome_iff_exists.mp e1
    obtain ⟨y, hy⟩ := Option.isSome_iff_exists.mp e2
    rw [r2_s hx hy] at hK
    obtain ⟨lx, rfl⟩ := ix_some hx
    obtain ⟨ly, rfl⟩ := ix_some hy
    exact S_resultOf fp P w ho lx ly fun _ => hK
theorem C_meet {v a b : Int32} (W : WS S) (I : InvC h S) (hK : K (rOp S 0 v a b) h) : Ev (d + 4) g g m_C_meet 0 [.ref A_x, .int v, .int a, .int b] [] h (asI K) := w_C_meet_0 I.1 (S_combine (op := 0) (by omega) W I fun _ => hK)
theorem C_join {v a b : Int32} (W : WS S) (I : InvC h S) (hK : K (rOp S 1 v a b) h) : Ev (d + 4) g g m_C_join 0 [.ref A_x, .int v, .int a, .int b] [] h (asI K) := w_C_join_0 I.1 (S_combine (op := 1) (by omega) W I fun _ => hK)
theorem C_implies {v a b : Int32} (W : WS S) (I : InvC h S) (hK : K (rOp S 2 v a b) h) : Ev (d + 4) g g m_C_implies 0 [.ref A_x, .int v, .int a, .int b] [] h (asI K) := w_C_implies_0 I.1 (S_combine (op := 2) (by omega) W I fun _ => hK)
theorem C_filterClass {v a b : Int32} (W : WS S) (I : InvC h S) (hK : K (rOp S 0 v a b) h) : Ev (d + 4) g g m_C_filterClass 0 [.ref A_x, .int v, .int a, .int b] [] h (asI K) := w_C_filterClass_0 I.1 (S_combine (op := 0) (by omega) W I fun _ => hK)
end OPC

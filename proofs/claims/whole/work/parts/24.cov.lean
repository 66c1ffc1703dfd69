/-! covers -/
theorem p2_lt {x : Nat} (h : x < 6) : 2 ^ x < 64 := (Nat.pow_lt_pow_right (by decide) h : 2 ^ x < 2 ^ 6)
theorem nm_cov : ∀ c, c < 64 → ∀ u, u < 64 → ∀ y, y < 6 → nI c &&& ((nI u ^^^ m1) ||| nI (2 ^ y)) = nI (c &&& ((u &&& (2 ^ y ^^^ 63)) ^^^ 63)) := by decide +kernel
def cvk (up : Nat → Nat) (t : Nat) : Nat → Nat
  | 0 => t
  | k + 1 => bif t.testBit k then cvk up t k &&& ((up k &&& (2 ^ k ^^^ 63)) ^^^ 63) else cvk up t k
theorem cvk_lt {up : Nat → Nat} {t : Nat} (ht : t < 64) : ∀ k, cvk up t k < 64
  | 0 => ht
  | k + 1 => by
    unfold cvk
    cases t.testBit k
    · exact cvk_lt ht k
    · exact and64 (cvk_lt ht k)
def gt (up : Nat → Nat) (x : Nat) : Nat := up x &&& (2 ^ x ^^^ 63)
def rCov (S : St) (v a : Int32) : Int32 := rPo S v fun p => r1 a p.1 fun x => nI (cvk p.2.1 (gt p.2.1 x) p.1)
section COV
variable {d g : Nat} {h : AH} {S : St} {K : Int32 → AH → Prop}
theorem S_coversOf {aa n x : Nat} {up : Nat → Nat} (f : is_P h aa) (o : PO h aa n up) (w : wfP n up) (hx : x < n) (hK : K (nI (cvk up (gt up x) n)) h) : Ev (d + 1) g g m_P_coversOf 0 [.ref aa, .int (nI x)] [] h (asI K) := by
  have h6 := w.1.2
  have t64 : gt up x < 64 := and64 (w.u64 hx)
  refine w_P_coversOf_0 f (S_greaterPoints f o w hx fun _ => ?_)
  refine for_up (σ := Unit) (fun k _ => Ev (d + 1) g g m_P_coversOf 11 [.ref aa, unk, .int (nI (gt up x)), .int (nI (cvk up (gt up x) k)), .int (nI k)] [] h (asI K)) (fun _ _ => True) n (fun _ _ => ?_) (fun k _ hk _ ih => ?_) 0 () (Nat.zero_le _) trivial
  · exact w_P_coversOf_11 f (br_le n n o.1 rfl (fun _ => hK) (fun z => by omega))
  · have i1 := ih () trivial
    refine w_P_coversOf_11 f (br_le n k o.1 rfl (fun z => by omega) fun _ => ?_)
    rw [nm_tb _ t64 k (by omega), nI_add]
    unfold cvk at i1
    refine br_tb (fun z => ?_) (fun z => S_greaterPoints f o w hk fun _ => ?_)
    · rw [z] at i1
      exact i1
    · rw [z] at i1
      have e1 := nm_dif _ (cvk_lt (up := up) t64 k) (up k &&& (2 ^ k ^^^ 63)) (and64 (w.u64 hk))
      unfold m1 at e1
      rw [e1]
      exact i1
theorem C_covers {v a : Int32} (W : WS S) (I : InvC h S) (hK : K (rCov S v a) h) : Ev (d + 2) g g m_C_covers 0 [.ref A_x, .int v, .int a] [] h (asI K) := by
  unfold rCov at hK
  refine w_C_covers_0 I.1 (S_posetAt I.1 (fun e => by rw [rPo_none e] at hK; exact hK) (fun j hj _ fp e => ⟨fp, ?_⟩))
  rw [rPo_some e] at hK
  have w := (W.1 j hj).1
  have o := (I.2.1 j hj).1
  refine S_hasPoint fp o.1 w.1.2 fun _ => br_nb (fun e1 => ?_) (fun e1 => ?_)
  · rw [r1_n e1] at hK
    exact hK
  · obtain ⟨x, hx⟩ := Option.isSome_iff_exists.mp e1
    rw [r1_s hx] at hK
    obtain ⟨lx, rfl⟩ := ix_some hx
    exact S_coversOf fp o w lx fun _ => hK
theorem M_covers {v a : Int32} (W : WS S) (I : InvM h S) (hK : ∀ h1, doneM S h h1 → K (rCov S v a) h1) : Ev (d + 1) g g m_M_covers 0 [.ref A_M, .int v, .int a] [] h (asI K) := by
  have hk := hK h (doneM.rf I)
  unfold rCov at hk
  refine w_M_covers_0 I.1 (S_isP (fun e => by rw [rPo_none e] at hk; exact hk) (fun j hj hv e => ?_))
  subst hv
  rw [rPo_some e] at hk
  have w := (W.1 j hj).1
  have h6 := w.1.2
  have o := (I.2.1 j hj).1
  refine S_MisPoint I.1 (by omega) o.1 w.1.2 fun _ => br_nb (fun e1 => ?_) (fun e1 => ?_)
  · rw [r1_n e1] at hk
    exact hk
  obtain ⟨x, hx⟩ := Option.isSome_iff_exists.mp e1
  rw [r1_s hx] at hk
  obtain ⟨lx, rfl⟩ := ix_some hx
  have t64 : gt (sP S j).2.1 x < 64 := and64 (w.u64 lx)
  have e1 := nm_dif _ (w.u64 lx) (2 ^ x) (p2_lt (by omega))
  unfold m1 at e1
  rw [nI_ix, nI_clamp (by omega), o.2 x lx, nm_bit1 x (by omega), e1]
  refine ⟨vp_in_nI (by omega) (by decide), ?_⟩
  refine for_up (σ := Unit) (fun k _ => Ev (d + 1) g g m_M_covers 42 [.ref A_M, .int (nI j), unk, .int (nI (gt (sP S j).2.1 x)), .int (nI (cvk (sP S j).2.1 (gt (sP S j).2.1 x) k)), .int (nI k)] [] h (asI K)) (fun _ _ => True) (sP S j).1 (fun _ _ => ?_) (fun k _ hk _ ih => ?_) 0 () (Nat.zero_le _) trivial
  · refine w_M_covers_42 I.1 ⟨vp_in_nI (by omega) (by decide), ?_⟩
    rw [nI_clamp (by omega)]
    exact br_le _ _ o.1 rfl (fun _ => hk) (fun z => by omega)
  · have i1 := ih () trivial
    refine w_M_covers_42 I.1 ⟨vp_in_nI (by omega) (by decide), ?_⟩
    rw [nI_clamp (by omega)]
    refine br_le _ k o.1 rfl (fun z => by omega) fun _ => ?_
    have e2 := nm_cov _ (cvk_lt (up := (sP S j).2.1) t64 k) _ (w.u64 hk) k (by omega)
    unfold m1 at e2
    rw [nm_tb _ t64 k (by omega), nI_add, nI_ix, nI_clamp (by omega), o.2 k hk, nm_bit1 k (by omega), e2]
    unfold cvk at i1
    refine br_tb1 (fun z => ?_) (fun z => ⟨vp_in_nI (by omega) (by decide), ?_⟩)
    · rw [z] at i1
      exact i1
    · rw [z] at i1
      exact i1
end COV

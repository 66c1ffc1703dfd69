/-! relate: the order with one more pair -/
def upR (up : Nat → Nat) (a b x : Nat) : Nat := bif le up x a then up x ||| up b else up x
theorem upR_le (up : Nat → Nat) (a b x y : Nat) : le (upR up a b) x y = (le up x y || (le up x a && le up b y)) := by
  unfold upR
  cases hxa : le up x a with
  | false =>
    rw [Bool.false_and, Bool.or_false]
    show (bif le up x a then up x ||| up b else up x).testBit y = _
    rw [hxa]
    rfl
  | true =>
    rw [Bool.true_and]
    show (bif le up x a then up x ||| up b else up x).testBit y = _
    rw [hxa, cond_true, Nat.testBit_or]
    rfl
theorem upR_wf {n : Nat} {up : Nat → Nat} (w : wfP n up) {a b : Nat} (ha : a < n) (hb : b < n) (hab : le up b a = true → a = b) : wfP n (upR up a b) := by
  have tr := w.2.2.2.1
  have an := w.2.2.2.2
  refine ⟨w.1, fun x hx => ?_, fun x hx => ?_, fun x y z hx hy hz h1 h2 => ?_, fun x y hx hy h1 h2 => ?_⟩
  · unfold upR
    cases le up x a
    · exact w.2.1 x hx
    · exact Nat.or_lt_two_pow (w.2.1 x hx) (w.2.1 b hb)
  · rw [upR_le, w.2.2.1 x hx, Bool.true_or]
  · rw [upR_le, Bool.or_eq_true, Bool.and_eq_true] at h1 h2 ⊢
    rcases h1 with h1 | ⟨h1, h1'⟩
    · rcases h2 with h2 | ⟨h2, h2'⟩
      · exact Or.inl (tr x y z hx hy hz h1 h2)
      · exact Or.inr ⟨tr x y a hx hy ha h1 h2, h2'⟩
    · rcases h2 with h2 | ⟨h2, h2'⟩
      · exact Or.inr ⟨h1, tr b y z hb hy hz h1' h2⟩
      · exact Or.inr ⟨h1, h2'⟩
  · rw [upR_le, Bool.or_eq_true, Bool.and_eq_true] at h1 h2
    rcases h1 with h1 | ⟨h1, h1'⟩
    · rcases h2 with h2 | ⟨h2, h2'⟩
      · exact an x y hx hy h1 h2
      · have e := hab (tr b y a hb hy ha (tr b x y hb hx hy h2' h1) h2)
        subst e
        exact an x y hx hy h1 (tr y a x hy ha hx h2 h2')
    · rcases h2 with h2 | ⟨h2, h2'⟩
      · have e := hab (tr b x a hb hx ha (tr b y x hb hy hx h1' h2) h1)
        subst e
        exact an x y hx hy (tr x a y hx ha hy h1 h1') h2
      · have e := hab (tr b y a hb hy ha h1' h2)
        subst e
        exact an x y hx hy (tr x a y hx ha hy h1 h1') (tr y a x hy ha hx h2 h2')
theorem upR_b {n : Nat} {up : Nat → Nat} (w : wfP n up) {a b : Nat} (hb : b < n) (hab : le up b a = true → a = b) : upR up a b b = up b := by
  unfold upR
  cases le up b a
  · rfl
  · exact Nat.or_self _
section REL
variable {d g aa n a b : Nat} {up val : Nat → Nat} {h : AH} {S : St} {K : Int32 → AH → Prop}
theorem S_below1 {u x y : Nat} (f : is_P h aa) (hr : mi h (aa + 1) x = nI u) (hu : u < 64) (hx : x < 6) (hy : y < 6) (hK : K (bI (u.testBit y)) h) : Ev d g g m_P_below 0 [.ref aa, .int (nI x), .int (nI y)] [] h (asI K) := by
  refine w_P_below_0 f ⟨vp_in_nI (by omega) (by decide), ?_⟩
  rw [nI_clamp (by omega), hr, nm_tb _ hu _ hy]
  exact br_tb (fun e => by rw [e] at hK; exact hK) (fun e => by rw [e] at hK; exact hK)
theorem S_extendLoop (f : is_P h aa) (o : PO h aa n up) (w : wfP n up) (ha : a < n) (hb : b < n) (hab : le up b a = true → a = b) (hK : ∀ h1, Ext h h1 → same (fun q => q < aa ∨ aa + 5 < q) h h1 → PC h1 aa n (upR up a b) (fun _ => 0) → K (nI (prk (upR up a b) n)) h1) : Ev (d + 4) g g m_P_extendOrder 37 [.ref aa, .int (nI a), .int (nI b), .int (nI 0)] [] h (asI K) := by
  have h6 := w.1.2
  have wR := upR_wf w ha hb hab
  refine for_up (σ := AH) (fun k hh => Ev (d + 4) g g m_P_extendOrder 37 [.ref aa, .int (nI a), .int (nI b), .int (nI k)] [] hh (asI K)) (fun k hh => Ext h hh ∧ same (fun q => q ≠ aa + 1) h hh ∧ ∀ x, x < n → mi hh (aa + 1) x = nI (if x < k then upR up a b x else up x)) n (fun hh hi => ?_) (fun k hh hk hi ih => ?_) 0 h (Nat.zero_le _) ⟨Ext.rfl', same.rf, fun x hx => by rw [if_neg (by omega)]; exact o.2 x hx⟩
  · obtain ⟨e, sa, hr⟩ := hi
    have hn : mi hh aa 0 = nI n := ((sa aa (by omega)).1 0).trans o.1
    refine w_P_extendOrder_37 (f.ext e) (br_le n n hn rfl (fun _ => ?_) (fun hz => by omega))
    refine S_refresh (f.ext e) ⟨hn, fun x hx => by rw [hr x hx, if_pos hx]⟩ wR fun h1 e1 s1 pc _ => ?_
    refine S_properPairs ((f.ext e).ext e1) pc wR fun _ => ?_
    exact hK h1 (e.trans e1) ((sa.sub fun q hq => by omega).trans s1) pc
  · obtain ⟨e, sa, hr⟩ := hi
    have hn : mi hh aa 0 = nI n := ((sa aa (by omega)).1 0).trans o.1
    have rk : mi hh (aa + 1) k = nI (up k) := by rw [hr k hk, if_neg (by omega)]
    have rb : mi hh (aa + 1) b = nI (up b) := by
      rw [hr b hb]
      split
      · rw [upR_b w hb hab]
      · rfl
    refine w_P_extendOrder_37 (f.ext e) (br_le n k hn rfl (fun hz => by omega) fun _ => S_below1 (f.ext e) rk (w.u64 hk) (by omega) (by omega) fun _ => br_b (fun hz => ?_) (fun hz => ?_))
    · rw [nI_add]
      refine ih hh ⟨e, sa, fun x hx => ?_⟩
      rw [hr x hx]
      by_cases ex : x = k
      · subst ex
        have : upR up a b x = up x := by
          unfold upR
          rw [show le up x a = false from hz]
          rfl
        rw [if_neg (by omega), if_pos (by omega), this]
      · by_cases hxk : x < k
        · rw [if_pos hxk, if_pos (by omega)]
        · rw [if_neg hxk, if_neg (by omega)]
    · refine ⟨vp_in_nI (by omega) (by decide), vp_in_nI (by omega) (by decide), vp_in_nI (by omega) (by decide), ?_⟩
      rw [nI_add, nI_clamp (by omega), nI_clamp (by omega), rk, rb, nm_or _ (w.u64 hk) _ (w.u64 hb)]
      refine ih _ ⟨e.trans (ext_wi _ _ _ _), sa.wi (fun hq => hq rfl), fun x hx => ?_⟩
      by_cases ex : x = k
      · subst ex
        have : upR up a b x = up x ||| up b := by
          unfold upR
          rw [show le up x a = true from hz]
          rfl
        rw [mi_eq, if_pos (by omega), this]
      · rw [mi_nj (fun (hq : x = k) => ex hq), hr x hx]
        by_cases hxk : x < k
        · rw [if_pos hxk, if_pos (by omega)]
        · rw [if_neg hxk, if_neg (by omega)]
end REL

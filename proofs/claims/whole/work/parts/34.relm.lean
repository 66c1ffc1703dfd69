/-! relate, the reference's loop -/
section RELM2
variable {d g i n a b : Nat} {up : Nat → Nat} {h : AH} {S : St} {K : Int32 → AH → Prop}
theorem S_MisLess1 {u x y : Nat} (fM : is_M h) (hi : i < 5) (hr : mi h M_up (6 * i + x) = nI u) (hu : u < 64) (hx : x < 6) (hy : y < 6) (hK : K (bI (u.testBit y)) h) : Ev d g g m_M_isLess 0 [.ref A_M, .int (nI i), .int (nI x), .int (nI y)] [] h (asI K) := by
  refine w_M_isLess_0 fM ?_
  rw [nI_ix, nI_clamp (by omega), hr, nm_tb _ hu _ hy]
  exact ⟨vp_in_nI (by omega) (by decide), br_tb1 (fun e => by rw [e] at hK; exact hK) (fun e => by rw [e] at hK; exact hK)⟩
theorem S_MrelLoop (fM : is_M h) (hi : i < 4) (o : MO h i n up) (w : wfP n up) (ha : a < n) (hb : b < n) (hab : le up b a = true → a = b) (hK : ∀ h1, Ext h h1 → sm (fun q j => ¬ (q = 75 ∧ 6 * i ≤ j ∧ j < 6 * i + 6) ∧ ¬ (q = 76 ∧ 3 * i ≤ j ∧ j < 3 * i + 3)) h h1 → MO h1 i n (upR up a b) → MV h1 i (fun _ => 0) → K (nI (prk (upR up a b) n)) h1) : Ev (d + 2) g g m_M_relate 48 [.ref A_M, .int (nI i), .int (nI a), .int (nI b), .int (nI 0)] [] h (asI K) := by
  have h6 := w.1.2
  have wR := upR_wf w ha hb hab
  refine for_up (σ := AH) (fun k hh => Ev (d + 2) g g m_M_relate 48 [.ref A_M, .int (nI i), .int (nI a), .int (nI b), .int (nI k)] [] hh (asI K)) (fun k hh => Ext h hh ∧ sm (fun q j => ¬ (q = 75 ∧ 6 * i ≤ j ∧ j < 6 * i + 6)) h hh ∧ ∀ x, x < n → mi hh M_up (6 * i + x) = nI (if x < k then upR up a b x else up x)) n (fun hh hj => ?_) (fun k hh hk hj ih => ?_) 0 h (Nat.zero_le _) ⟨Ext.rfl', sm.rf, fun x hx => by rw [if_neg (by omega)]; exact o.2 x hx⟩
  · obtain ⟨e, sa, hr⟩ := hj
    have hn : mi hh M_size i = nI n := (sa _ _ (fun hq => absurd hq.1 (by decide))).1.trans o.1
    have oR : MO hh i n (upR up a b) := ⟨hn, fun x hx => by rw [hr x hx, if_pos hx]⟩
    refine w_M_relate_48 (fM.ext e) ⟨vp_in_nI (by omega) (by decide), ?_⟩
    rw [nI_clamp (by omega)]
    refine br_le n n hn rfl (fun _ => S_Munvalues (fM.ext e) hi fun h1 e1 s1 mv _ => ?_) (fun hz => by omega)
    have oR1 : MO h1 i n (upR up a b) := oR.keep s1 (fun hq => absurd hq.1 (by decide)) fun x hx hq => absurd hq.1 (by decide)
    refine S_Mpairs ((fM.ext e).ext e1) (by omega) oR1 wR fun _ => ?_
    exact hK h1 (e.trans e1) ((sa.sub fun q j hq => hq.1).trans (s1.sub fun q j hq => hq.2)) oR1 mv
  · obtain ⟨e, sa, hr⟩ := hj
    have hn : mi hh M_size i = nI n := (sa _ _ (fun hq => absurd hq.1 (by decide))).1.trans o.1
    have rk : mi hh M_up (6 * i + k) = nI (up k) := by rw [hr k hk, if_neg (by omega)]
    have rb : mi hh M_up (6 * i + b) = nI (up b) := by
      rw [hr b hb]
      split
      · rw [upR_b w hb hab]
      · rfl
    refine w_M_relate_48 (fM.ext e) ⟨vp_in_nI (by omega) (by decide), ?_⟩
    rw [nI_clamp (by omega)]
    refine br_le n k hn rfl (fun hz => by omega) fun _ => S_MisLess1 (fM.ext e) (by omega) rk (w.u64 hk) (by omega) (by omega) fun _ => br_b (fun hz => ?_) (fun hz => ?_)
    · rw [nI_add]
      refine ih hh ⟨e, sa, fun x hx => ?_⟩
      rw [hr x hx]
      by_cases ex : x = k
      · subst ex
        have : upR up a b x = up x := by
          unfold upR
          rw [show le up x a = false from hz]
          rfl
        rw [if_neg (by omega), if_pos (by omega), this]
      · by_cases hxk : x < k
        · rw [if_pos hxk, if_pos (by omega)]
        · rw [if_neg hxk, if_neg (by omega)]
    · rw [nI_ix, nI_ix, nI_add, nI_clamp (by omega), nI_clamp (by omega), rk, rb, nm_or _ (w.u64 hk) _ (w.u64 hb)]
      refine ⟨vp_in_nI (by omega) (by decide), vp_in_nI (by omega) (by decide), vp_in_nI (by omega) (by decide), ?_⟩
      refine ih _ ⟨e.trans (ext_wi _ _ _ _), sa.wi (fun hq => hq ⟨rfl, by omega, by omega⟩), fun x hx => ?_⟩
      by_cases ex : x = k
      · subst ex
        have : upR up a b x = up x ||| up b := by
          unfold upR
          rw [show le up x a = true from hz]
          rfl
        rw [mi_eq, if_pos (by omega), this]
      · rw [mi_nj (fun (hq : 6 * i + x = 6 * i + k) => ex (by omega)), hr x hx]
        by_cases hxk : x < k
        · rw [if_pos hxk, if_pos (by omega)]
        · rw [if_neg hxk, if_neg (by omega)]
end RELM2

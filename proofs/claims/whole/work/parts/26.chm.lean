/-! the reference's largest, ends, pairs; the class's ends and pairs -/
theorem br_bb {a b : Bool} {A B : Prop} (f : a = b → A) (g : a ≠ b → B) : (bI a = bI b → A) ∧ (¬ bI a = bI b → B) := by
  have h : bI a = bI b ↔ a = b := by
    constructor
    · intro z
      cases a <;> cases b <;> first | rfl | exact absurd z (by decide)
    · intro z; rw [z]
  exact ⟨fun z => f (h.mp z), fun z => g fun q => z (h.mpr q)⟩
section CHM
variable {d g i n x y s : Nat} {up val : Nat → Nat} {h : AH} {K : Int32 → AH → Prop}
theorem S_MareRelated (fM : is_M h) (hi : i < 5) (o : MO h i n up) (w : wfP n up) (hx : x < n) (hy : y < n) (hK : K (bI (rel up x y)) h) : Ev (d + 1) g g m_M_areRelated 0 [.ref A_M, .int (nI i), .int (nI x), .int (nI y)] [] h (asI K) := by
  have h6 := w.1.2
  unfold rel at hK
  refine w_M_areRelated_0 fM (S_MisLess fM hi o h6 (w.u64 hx) hx (by omega) fun _ => br_nb (fun z => S_MisLess fM hi o h6 (w.u64 hy) hy (by omega) fun _ => br_b (fun z2 => ?_) (fun z2 => ?_)) (fun z => ?_))
  · rw [z, z2] at hK; exact hK
  · rw [z, z2] at hK; exact hK
  · rw [z] at hK; exact hK
theorem S_Mlargest {b : Bool} (fM : is_M h) (hi : i < 5) (o : MO h i n up) (w : wfP n up) (hK : K (nI (bst (prs n up b) (2 ^ n))) h) : Ev (d + 2) g g m_M_largest 0 [.ref A_M, .int (nI i), .int (bI b)] [] h (asI K) := by
  have h6 := w.1.2
  have hp := p2_le h6
  have hpp : 1 ≤ 2 ^ n := p2_pos n
  refine w_M_largest_0 fM ?_
  have st := for_up (σ := Unit) (fun k _ => Ev (d + 2) g g m_M_largest 5 [.ref A_M, .int (nI i), .int (bI b), .int (nI (bst (prs n up b) k)), .int (nI k)] [] h (asI K)) (fun _ _ => True) (2 ^ n) (fun _ _ => ?_) (fun k _ hk _ ih => ?_) 1 () hpp trivial
  · rw [bst_1] at st
    exact st
  · exact w_M_largest_5 fM (S_MallOf fM hi o.1 h6 fun _ => br_lt (2 ^ n - 1) (2 ^ n) rfl rfl (fun _ => hK) (fun z => by omega))
  have i1 := ih () trivial
  have b6 := bst_le (P := prs n up b) k (by omega)
  have p6 := pop_le6 6 (by decide) k (by omega)
  have k64 : k < 64 := by omega
  have up0 : ¬ (bst (prs n up b) k < pop k ∧ prs n up b k = true) → bst (prs n up b) (k + 1) = bst (prs n up b) k := fun z => by
    conv => lhs; unfold bst
    cases hp : prs n up b k with
    | false => rfl
    | true => exact Nat.max_eq_left (Nat.le_of_not_lt fun q => z ⟨q, hp⟩)
  have up1 : (bst (prs n up b) k < pop k ∧ prs n up b k = true) → bst (prs n up b) (k + 1) = pop k := fun z => by
    conv => lhs; unfold bst
    rw [z.2]
    exact Nat.max_eq_right (Nat.le_of_lt z.1)
  have in34 : ∀ c : Bool, (c = true ↔ bst (prs n up b) k < pop k) → Ev (d + 2) g g m_M_largest 34 [.ref A_M, .int (nI i), .int (bI b), .int (nI (bst (prs n up b) k)), .int (nI k), .int (bI c), .int (nI 0)] [] h (asI K) := fun c hc => by
    refine for_up (σ := Bool) (fun x c => Ev (d + 2) g g m_M_largest 34 [.ref A_M, .int (nI i), .int (bI b), .int (nI (bst (prs n up b) k)), .int (nI k), .int (bI c), .int (nI x)] [] h (asI K)) (fun x c => c = true ↔ bst (prs n up b) k < pop k ∧ ∀ x', x' < x → ∀ y, y < x' → k.testBit x' = true → k.testBit y = true → rel up x' y = b) n (fun c hc => ?_) (fun x c hx hc ih2 => ?_) 0 c (Nat.zero_le _) (hc.trans ⟨fun z => ⟨z, fun _ q => by omega⟩, fun z => z.1⟩)
    · refine w_M_largest_34 fM ⟨vp_in_nI hi (by decide), ?_⟩
      rw [nI_clamp (by omega), nI_add]
      refine br_le n n o.1 rfl (fun _ => br_b (fun z => ?_) (fun z => S_Mbits k64 fun _ => ?_)) (fun z => by omega)
      · rw [up0 fun q => by rw [hc.mpr ⟨q.1, prs_iff.mp q.2⟩] at z; cases z] at i1
        exact i1
      · rw [up1 ⟨(hc.mp z).1, prs_iff.mpr (hc.mp z).2⟩] at i1
        exact i1
    · refine w_M_largest_34 fM ⟨vp_in_nI hi (by decide), ?_⟩
      rw [nI_clamp (by omega), nI_add]
      refine br_le n x o.1 rfl (fun z => by omega) fun _ => br_b (fun z => br_b (fun _ => ?_) (fun q => by rw [z] at q; cases q)) (fun z => ?_)
      · rw [up0 fun q => by rw [hc.mpr ⟨q.1, fun x' hx' => prs_iff.mp q.2 x' (by omega)⟩] at z; cases z] at i1
        exact i1
      · refine for_up (σ := Bool) (fun y c => Ev (d + 2) g g m_M_largest 53 [.ref A_M, .int (nI i), .int (bI b), .int (nI (bst (prs n up b) k)), .int (nI k), .int (bI c), .int (nI x), .int (nI y)] [] h (asI K)) (fun y c => c = true ↔ ∀ y', y' < y → k.testBit x = true → k.testBit y' = true → rel up x y' = b) x (fun c2 hc2 => ?_) (fun y c2 hy hc2 ih3 => ?_) 0 c (Nat.zero_le _) ⟨fun _ _ q => by omega, fun _ => z⟩
        · refine w_M_largest_53 fM (br_le x x rfl rfl (fun _ => ?_) (fun z => by omega))
          rw [nI_add]
          refine ih2 c2 (hc2.trans ⟨fun q => ⟨(hc.mp z).1, fun x' hx' => ?_⟩, fun q y' hy' => q.2 x (by omega) y' hy'⟩)
          by_cases e : x' = x
          · subst e; exact q
          · exact (hc.mp z).2 x' (by omega)
        · refine w_M_largest_53 fM (br_le x y rfl rfl (fun z => by omega) fun _ => ?_)
          rw [nm_tb2 k k64 x (by omega) y (by omega), nI_add]
          have ext : (k.testBit x = true → k.testBit y = true → rel up x y = b) → Ev (d + 2) g g m_M_largest 53 [.ref A_M, .int (nI i), .int (bI b), .int (nI (bst (prs n up b) k)), .int (nI k), .int (bI c2), .int (nI x), .int (nI (y + 1))] [] h (asI K) := fun q => ih3 c2 (hc2.trans ⟨fun r y' hy' => by
            by_cases e : y' = y
            · subst e; exact q
            · exact r y' (by omega), fun r y' hy' => r y' (by omega)⟩)
          refine br_tb1 (fun q => ext fun a1 a2 => by rw [a1, a2] at q; cases q) (fun q => S_MareRelated fM hi o w hx (by omega) fun _ => br_bb (fun e => ext fun _ _ => e) (fun e => ih3 false ⟨fun r => (by cases r), fun r => ?_⟩))
          rw [Bool.and_eq_true] at q
          exact absurd (r y (by omega) q.1 q.2) e
  refine w_M_largest_5 fM (S_MallOf fM hi o.1 h6 fun _ => br_lt (2 ^ n - 1) k rfl rfl (fun z => by omega) fun _ => S_Mbits k64 fun _ => br_le (pop k) (bst (prs n up b) k) rfl rfl (fun z => in34 false ⟨fun r => (by cases r), fun r => by omega⟩) (fun z => in34 true ⟨fun _ => z, fun _ => rfl⟩))
end CHM

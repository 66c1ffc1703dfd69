/-! the law's loop -/
theorem br_lim {L i : Nat} {A B : Prop} (hL : L ≤ 4000) (hi : i ≤ 8000) (f : L < i + 6 → A) (gg : i + 6 ≤ L → B) : (nI L - nI 6 < nI i → A) ∧ (¬ nI L - nI 6 < nI i → B) := by
  by_cases c : 6 ≤ L
  · rw [pk_sub c]
    exact br_lt (L - 6) i rfl rfl (fun z => f (by omega)) (fun z => gg (by omega))
  · have hlt : nI L - nI 6 < nI i := by
      have hL5 : L = 0 ∨ L = 1 ∨ L = 2 ∨ L = 3 ∨ L = 4 ∨ L = 5 := by omega
      have neg : nI L - nI 6 < 0 := by rcases hL5 with rfl | rfl | rfl | rfl | rfl | rfl <;> decide
      have pos : (0 : Int32) ≤ nI i := nI_nn (by omega)
      rw [Int32.lt_iff_toInt_lt] at neg ⊢
      rw [Int32.le_iff_toInt_le] at pos
      omega
    exact ⟨fun _ => f (by omega), fun z => absurd hlt z⟩
theorem law_loop {L : Nat} {s : Nat → Int32} {d : Nat} {K : Int32 → AH → Prop} (hL : L ≤ 3072) (hK : ∀ hh, K (nI 1) hh) : ∀ (m g i : Nat) (h : AH) (S : St), i ≤ L + 6 → L < i + 6 * (m + 1) → 2 * (m + 1) ≤ g → LI L s h S → Ev (d + 11) g 0 m_L_law 18 [.ref 0, .ref A_x, .ref A_M, .int (nI i)] [] h (asI K) := by
  intro m
  induction m with
  | zero =>
    intro g i h S hi hm hg l
    rw [show g = (g - 2) + 2 by omega]
    exact w_L_law_18 (d := d + 10) l.2.2.2.2.1 l.2.1.1 l.2.2.1.1 (br_lim (by omega) (by omega) (fun _ => hK h) (fun z => by omega))
  | succ m ih =>
    intro g i h S hi hm hg l
    rw [show g = (g - 2) + 2 by omega]
    refine w_L_law_18 (d := d + 10) l.2.2.2.2.1 l.2.1.1 l.2.2.1.1 (br_lim (by omega) (by omega) (fun _ => hK h) (fun z => ⟨vp_in_nI (by omega) (by omega), ?_⟩))
    have v1 : vp_in (nI i + nI 1) L := by rw [nI_add]; exact vp_in_nI (by omega) (by omega)
    have v2 : vp_in (nI i + nI 2) L := by rw [nI_add]; exact vp_in_nI (by omega) (by omega)
    have v3 : vp_in (nI i + nI 3) L := by rw [nI_add]; exact vp_in_nI (by omega) (by omega)
    have v4 : vp_in (nI i + nI 4) L := by rw [nI_add]; exact vp_in_nI (by omega) (by omega)
    have v5 : vp_in (nI i + nI 5) L := by rw [nI_add]; exact vp_in_nI (by omega) (by omega)
    have c2 : ∀ h2 S2, LI L s h2 S2 → Ev (d + 10 + 1) (g - 2 + 2) 0 m_L_law 18 [.ref 0, .ref A_x, .ref A_M, .int (nI i + nI 6)] [] h2 (asI K) := fun h2 S2 l2 => by rw [nI_add]; exact ih _ (i + 6) h2 S2 (by omega) (by omega) (by omega) l2
    have c0 : ∀ h2 S2, LI L s h2 S2 → Ev (d + 10 + 1) (g - 2) 0 m_L_law 18 [.ref 0, .ref A_x, .ref A_M, .int (nI i + nI 6)] [] h2 (asI K) := fun h2 S2 l2 => by rw [nI_add]; exact ih _ (i + 6) h2 S2 (by omega) (by omega) (by omega) l2
    exact ⟨fun _ => ⟨v1, v2, k_reset l v1 v2 c2⟩,
      fun _ => ⟨v1, k_points l v1 c2⟩,
      fun _ => ⟨v1, v2, v3, k_relate l v1 v2 v3 c2⟩,
      fun _ => ⟨v1, v2, v3, k_isBelow l v1 v2 v3 c2⟩,
      fun _ => ⟨v1, v2, k_covers l v1 v2 c2⟩,
      fun _ => ⟨v1, v2, k_property l v1 v2 c2⟩,
      fun _ => ⟨v1, k_elementCount l v1 c2⟩,
      fun _ => ⟨v1, v2, k_elementBits l v1 v2 c2⟩,
      fun _ => ⟨v1, v2, k_elementOf l v1 v2 c2⟩,
      fun _ => ⟨v1, v2, v3, k_meet l v1 v2 v3 c2⟩,
      fun _ => ⟨v1, v2, v3, k_join l v1 v2 v3 c2⟩,
      fun _ => ⟨v1, v2, v3, k_implies l v1 v2 v3 c2⟩,
      fun _ => ⟨v1, k_append l v1 c2⟩,
      fun _ => k_clearText l c2,
      fun _ => ⟨v1, k_parse l v1 c2⟩,
      fun _ => ⟨v1, k_formulaSize l v1 c2⟩,
      fun _ => ⟨v1, v2, v3, v4, k_substitute l v1 v2 v3 v4 c2⟩,
      fun _ => ⟨v1, v2, v3, k_setValue l v1 v2 v3 c2⟩,
      fun _ => ⟨v1, v2, k_value l v1 v2 c2⟩,
      fun _ => ⟨v1, v2, v3, k_isForced l v1 v2 v3 c2⟩,
      fun _ => ⟨v1, v2, k_isValid l v1 v2 c2⟩,
      fun _ => ⟨v1, v2, v3, k_refutation l v1 v2 v3 c2⟩,
      fun _ => ⟨v1, v2, v3, k_countValuations l v1 v2 v3 c2⟩,
      fun _ => ⟨v1, v2, v3, k_filterClass l v1 v2 v3 c2⟩,
      fun _ => ⟨v1, v2, k_quotientSize l v1 v2 c2⟩,
      fun _ => ⟨v1, v2, k_isPrime l v1 v2 c2⟩,
      fun _ => ⟨v1, k_addGenerator l v1 c2⟩,
      fun _ => k_clearGenerators l c2,
      fun _ => ⟨v1, k_generate l v1 c2⟩,
      fun _ => ⟨v1, v2, k_term l v1 v2 c2⟩,
      fun _ => ⟨v1, v2, v3, k_countMaps l v1 v2 v3 c0⟩,
      fun _ => ⟨v1, v2, v3, k_firstMap l v1 v2 v3 c0⟩,
      fun _ => ⟨v1, v2, k_isIsomorphic l v1 v2 c0⟩,
      fun _ => ⟨v1, v2, v3, v4, k_sum l v1 v2 v3 v4 c2⟩,
      fun _ => ⟨v1, v2, v3, k_product l v1 v2 v3 c2⟩,
      fun _ => ⟨v1, v2, v3, k_restrict l v1 v2 v3 c2⟩,
      fun _ => ⟨v1, v2, k_dual l v1 v2 c2⟩,
      fun _ => ⟨v1, v2, v3, k_allocate l v1 v2 v3 c2⟩,
      fun _ => ⟨v1, v2, v3, k_put l v1 v2 v3 c2⟩,
      fun _ => ⟨v1, v2, k_rowElement l v1 v2 c2⟩,
      fun _ => ⟨v1, v2, v3, v4, v5, k_copyElements l v1 v2 v3 v4 v5 c2⟩,
      fun _ => ⟨v1, v2, k_storeElements l v1 v2 c2⟩,
      fun _ => ⟨v1, v2, k_loadOrder l v1 v2 c2⟩,
      fun _ => k_failure l c2,
      fun _ => c2 h S l⟩

/-! components -/
theorem pop_full : ∀ n, n < 7 → ∀ s, s < 2 ^ n → n ≤ pop s → s = 2 ^ n - 1 := by decide +kernel
theorem pop_bit : ∀ x, x < 6 → pop (2 ^ x) = 1 := by decide +kernel
def Cl (n : Nat) (up : Nat → Nat) (t : Nat) : Prop := ∀ a, a < n → ∀ b, b < n → t.testBit a = true → rel up a b = true → t.testBit b = true
def exk (n : Nat) (up : Nat → Nat) (c : Nat) : Nat → Nat
  | 0 => c
  | k + 1 => bif c.testBit k then exk n up c k ||| rlk n up k else exk n up c k
def cmk (n : Nat) (up : Nat → Nat) (x : Nat) : Nat → Nat
  | 0 => 2 ^ x
  | k + 1 => exk n up (cmk n up x k) n
def cmp (n : Nat) (up : Nat → Nat) (x : Nat) : Nat := cmk n up x (n - 1)
section CMP
variable {n : Nat} {up : Nat → Nat}
theorem rlk_lt (w : wfP n up) {x : Nat} (hx : x < n) : rlk n up x < 2 ^ n := Nat.or_lt_two_pow (w.2.1 x hx) (dsk_lt n up _ n)
theorem exk_lt (w : wfP n up) {c : Nat} (hc : c < 2 ^ n) : ∀ k, k ≤ n → exk n up c k < 2 ^ n
  | 0, _ => hc
  | k + 1, h => by
    unfold exk
    cases c.testBit k
    · exact exk_lt w hc k (by omega)
    · exact Nat.or_lt_two_pow (exk_lt w hc k (by omega)) (rlk_lt w (by omega))
theorem exk_tb {c : Nat} {b : Nat} (hb : b < n) : ∀ k, k ≤ n → ((exk n up c k).testBit b = true ↔ c.testBit b = true ∨ ∃ a, a < k ∧ c.testBit a = true ∧ rel up a b = true)
  | 0, _ => ⟨fun hz => Or.inl hz, fun hz => by
    rcases hz with hz | ⟨a, ha, _⟩
    · exact hz
    · omega⟩
  | k + 1, hk => by
    have ih := exk_tb (c := c) hb k (by omega)
    unfold exk
    cases hck : c.testBit k with
    | false =>
      rw [cond_false, ih]
      constructor
      · rintro (hz | ⟨a, ha, h1, h2⟩)
        · exact Or.inl hz
        · exact Or.inr ⟨a, by omega, h1, h2⟩
      · rintro (hz | ⟨a, ha, h1, h2⟩)
        · exact Or.inl hz
        · refine Or.inr ⟨a, ?_, h1, h2⟩
          by_cases e : a = k
          · subst e; rw [hck] at h1; cases h1
          · omega
    | true =>
      rw [cond_true, Nat.testBit_or, Bool.or_eq_true, ih, rlk_tb (by omega) hb]
      constructor
      · rintro ((hz | ⟨a, ha, h1, h2⟩) | hz)
        · exact Or.inl hz
        · exact Or.inr ⟨a, by omega, h1, h2⟩
        · exact Or.inr ⟨k, by omega, hck, hz⟩
      · rintro (hz | ⟨a, ha, h1, h2⟩)
        · exact Or.inl (Or.inl hz)
        · by_cases e : a = k
          · subst e; exact Or.inr h2
          · exact Or.inl (Or.inr ⟨a, by omega, h1, h2⟩)
theorem exk_sub {c : Nat} {b : Nat} (hb : b < n) (h : c.testBit b = true) : (exk n up c n).testBit b = true := (exk_tb hb n (Nat.le_refl _)).mpr (Or.inl h)
theorem sub_and {a b : Nat} (hn : n ≤ 6) (ha : a < 2 ^ n) (h : ∀ y, y < n → a.testBit y = true → b.testBit y = true) : a &&& b = a := by
  refine set_ext (and64 (Nat.lt_of_lt_of_le ha (p2_le hn))) (Nat.lt_of_lt_of_le ha (p2_le hn)) fun y _ => ?_
  rw [Nat.testBit_and]
  cases hy : a.testBit y with
  | false => rfl
  | true => exact h y (tb_lt ha hy) hy
theorem sub_grow {a b : Nat} (hn : n ≤ 6) (ha : a < 2 ^ n) (hb : b < 2 ^ n) (h : ∀ y, y < n → a.testBit y = true → b.testBit y = true) (hne : a ≠ b) : pop a < pop b := pop_and a (Nat.lt_of_lt_of_le ha (p2_le hn)) b (Nat.lt_of_lt_of_le hb (p2_le hn)) (sub_and hn ha h) hne
theorem sub_eq {a b : Nat} (hn : n ≤ 6) (ha : a < 2 ^ n) (hb : b < 2 ^ n) (h : ∀ y, y < n → a.testBit y = true → b.testBit y = true) (h' : ∀ y, y < n → b.testBit y = true → a.testBit y = true) : a = b := by
  rw [← sub_and hn ha h, Nat.and_comm]
  exact sub_and hn hb h'
theorem exk_cl {c : Nat} (e : exk n up c n = c) : Cl n up c := fun a ha b hb h1 h2 => by
  rw [← e]
  exact (exk_tb hb n (Nat.le_refl _)).mpr (Or.inr ⟨a, ha, h1, h2⟩)
theorem cl_exk (w : wfP n up) {c : Nat} (hc : c < 2 ^ n) (h : Cl n up c) : exk n up c n = c := by
  refine sub_eq w.1.2 (exk_lt w hc n (Nat.le_refl _)) hc (fun y hy hz => ?_) (fun y hy hz => exk_sub hy hz)
  rcases (exk_tb hy n (Nat.le_refl _)).mp hz with hz | ⟨a, ha, h1, h2⟩
  · exact hz
  · exact h a ha y hy h1 h2
theorem cmk_lt (w : wfP n up) {x : Nat} (hx : x < n) : ∀ k, cmk n up x k < 2 ^ n
  | 0 => Nat.pow_lt_pow_right (by decide) hx
  | k + 1 => exk_lt w (cmk_lt w hx k) n (Nat.le_refl _)
theorem cmk_x {x : Nat} (hx : x < n) : ∀ k, (cmk n up x k).testBit x = true
  | 0 => by unfold cmk; rw [Nat.testBit_two_pow, decide_eq_true_eq]
  | k + 1 => exk_sub hx (cmk_x hx k)
theorem cmk_grow (w : wfP n up) {x : Nat} (hx : x < n) : ∀ k, Cl n up (cmk n up x k) ∨ k + 1 ≤ pop (cmk n up x k)
  | 0 => by
    have h6 := w.1.2
    refine Or.inr ?_
    unfold cmk
    rw [pop_bit x (by omega)]
    omega
  | k + 1 => by
    have lk := cmk_lt w hx k
    by_cases e : exk n up (cmk n up x k) n = cmk n up x k
    · refine Or.inl ?_
      unfold cmk
      rw [e]
      exact exk_cl e
    · rcases cmk_grow w hx k with hz | hz
      · exact absurd (cl_exk w lk hz) e
      · refine Or.inr ?_
        unfold cmk
        have := sub_grow w.1.2 lk (exk_lt w lk n (Nat.le_refl _)) (fun y hy hq => exk_sub (up := up) hy hq) fun hq => e hq.symm
        omega
theorem cmp_cl (w : wfP n up) {x : Nat} (hx : x < n) : Cl n up (cmp n up x) := by
  unfold cmp
  rcases cmk_grow w hx (n - 1) with hz | hz
  · exact hz
  · have h6 := w.1.2
    intro a ha b hb _ _
    rw [pop_full n (by omega) _ (cmk_lt w hx _) (by omega), Nat.testBit_two_pow_sub_one, decide_eq_true_eq]
    exact hb
theorem cmk_min {x t : Nat} (hx : t.testBit x = true) (ht : Cl n up t) : ∀ k y, y < n → (cmk n up x k).testBit y = true → t.testBit y = true
  | 0, y, _, hz => by
    unfold cmk at hz
    rw [Nat.testBit_two_pow, decide_eq_true_eq] at hz
    subst hz
    exact hx
  | k + 1, y, hy, hz => by
    unfold cmk at hz
    rcases (exk_tb hy n (Nat.le_refl _)).mp hz with hz | ⟨a, ha, h1, h2⟩
    · exact cmk_min hx ht k y hy hz
    · exact ht a ha y hy (cmk_min hx ht k a ha h1) h2
end CMP
def csk (n : Nat) (up : Nat → Nat) : Nat → Nat × Nat
  | 0 => (0, 0)
  | k + 1 => bif (csk n up k).2.testBit k then csk n up k else ((csk n up k).1 + 1, (csk n up k).2 ||| cmp n up k)
section COMP
variable {d g aa i n x y s : Nat} {up val : Nat → Nat} {h : AH} {K : Int32 → AH → Prop}
theorem cmp64 (w : wfP n up) (hx : x < n) : cmp n up x < 64 := Nat.lt_of_lt_of_le (cmk_lt w hx _) (p2_le w.1.2)
theorem csk64 (w : wfP n up) : ∀ k, k ≤ n → (csk n up k).2 < 64
  | 0, _ => Nat.succ_pos 63
  | k + 1, hk => by
    unfold csk
    cases (csk n up k).2.testBit k
    · exact or64 (csk64 w k (by omega)) (cmp64 w (by omega))
    · exact csk64 w k (by omega)
theorem S_componentOf (f : is_P h aa) (P : PC h aa n up val) (w : wfP n up) (hx : x < n) (hK : K (nI (cmp n up x)) h) : Ev (d + 1) g g m_P_componentOf 0 [.ref aa, .int (nI x)] [] h (asI K) := by
  have h6 := w.1.2
  have h1 := w.1.1
  refine w_P_componentOf_0 f ?_
  rw [nm_bit1 x (by omega)]
  refine for_up (σ := Unit) (fun k _ => Ev (d + 1) g g m_P_componentOf 6 [.ref aa, unk, .int (nI (cmk n up x k)), .int (nI (k + 1))] [] h (asI K)) (fun _ _ => True) (n - 1) (fun _ _ => ?_) (fun k _ hk _ ih => ?_) 0 () (Nat.zero_le _) trivial
  · exact w_P_componentOf_6 f (br_le n (n - 1 + 1) P.1.1 rfl (fun _ => hK) (fun hz => by omega))
  · have i1 := ih () trivial
    have c64 : cmk n up x k < 64 := Nat.lt_of_lt_of_le (cmk_lt w hx _) (p2_le h6)
    refine w_P_componentOf_6 f (br_le n (k + 1) P.1.1 rfl (fun hz => by omega) fun _ => ?_)
    refine for_up (σ := Unit) (fun m _ => Ev (d + 1) g g m_P_componentOf 20 [.ref aa, unk, .int (nI (cmk n up x k)), .int (nI (k + 1)), .int (nI (exk n up (cmk n up x k) m)), .int (nI m)] [] h (asI K)) (fun _ _ => True) n (fun _ _ => ?_) (fun m _ hm _ ih2 => ?_) 0 () (Nat.zero_le _) trivial
    · refine w_P_componentOf_20 f (br_le n n P.1.1 rfl (fun _ => ?_) (fun hz => by omega))
      rw [nI_add]
      exact i1
    · have i2 := ih2 () trivial
      unfold exk at i2
      refine w_P_componentOf_20 f (br_le n m P.1.1 rfl (fun hz => by omega) fun _ => ?_)
      rw [nm_tb _ c64 m (by omega), nI_add]
      refine br_tb (fun hz => ?_) (fun hz => S_relatedPoints f P w hm fun _ => ?_)
      · rw [hz] at i2
        exact i2
      · rw [hz] at i2
        rw [nm_or _ (Nat.lt_of_lt_of_le (exk_lt w (cmk_lt w hx _) m (by omega)) (p2_le h6)) _ (rlk64 w hm)]
        exact i2
theorem S_components (f : is_P h aa) (P : PC h aa n up val) (w : wfP n up) (hK : K (nI (csk n up n).1) h) : Ev (d + 2) g g m_P_components 0 [.ref aa] [] h (asI K) := by
  have h6 := w.1.2
  refine w_P_components_0 f ?_
  refine for_up (σ := Unit) (fun k _ => Ev (d + 2) g g m_P_components 6 [.ref aa, .int (nI (csk n up k).1), .int (nI (csk n up k).2), .int (nI k)] [] h (asI K)) (fun _ _ => True) n (fun _ _ => ?_) (fun k _ hk _ ih => ?_) 0 () (Nat.zero_le _) trivial
  · exact w_P_components_6 f (br_le n n P.1.1 rfl (fun _ => hK) (fun hz => by omega))
  · have i1 := ih () trivial
    have c64 := csk64 w k (by omega)
    unfold csk at i1
    refine w_P_components_6 f (br_le n k P.1.1 rfl (fun hz => by omega) fun _ => ?_)
    rw [nm_tb _ c64 k (by omega), nI_add, nI_add]
    refine (br_tb (fun hz => S_componentOf f P w hk fun _ => ?_) (fun hz => ?_)).symm
    · rw [hz] at i1
      rw [nm_or _ c64 _ (cmp64 w hk)]
      exact i1
    · rw [hz] at i1
      exact i1
theorem S_Mcomponents (fM : is_M h) (hi : i < 5) (o : MO h i n up) (w : wfP n up) (hK : K (nI (csk n up n).1) h) : Ev (d + 2) g g m_M_components 0 [.ref A_M, .int (nI i)] [] h (asI K) := by
  have h6 := w.1.2
  refine w_M_components_0 fM ?_
  refine for_up (σ := Unit) (fun k _ => Ev (d + 2) g g m_M_components 7 [.ref A_M, .int (nI i), .int (nI (csk n up k).1), .int (nI (csk n up k).2), .int (nI k)] [] h (asI K)) (fun _ _ => True) n (fun _ _ => ?_) (fun k _ hk _ ih => ?_) 0 () (Nat.zero_le _) trivial
  · refine w_M_components_7 fM ⟨vp_in_nI hi (by decide), ?_⟩
    rw [nI_clamp (by omega)]
    exact br_le n n o.1 rfl (fun _ => hK) (fun hz => by omega)
  have i1 := ih () trivial
  have c64 := csk64 w k (by omega)
  unfold csk at i1
  refine w_M_components_7 fM ⟨vp_in_nI hi (by decide), ?_⟩
  rw [nI_clamp (by omega), nm_tb _ c64 k (by omega), nI_add, nI_add, nm_bit1 k (by omega)]
  refine br_le n k o.1 rfl (fun hz => by omega) fun _ => br_tb1 (fun hz => ?_) (fun hz => ?_)
  rotate_left
  · rw [hz] at i1
    exact i1
  rw [hz] at i1
  have i1 : Ev (d + 2) g g m_M_components 7 [.ref A_M, .int (nI i), .int (nI ((csk n up k).1 + 1)), .int (nI ((csk n up k).2 ||| cmp n up k)), .int (nI (k + 1))] [] h (asI K) := i1
  have kcl := cmp_cl w hk
  have klt : cmp n up k < 2 ^ n := cmk_lt w hk _
  have fin : ∀ t, t < 2 ^ n → t.testBit k = true → (∀ a, a < n → t.testBit a = true → (cmp n up k).testBit a = true) → Cl n up t → ∀ p, p = t → Ev (d + 2) g g m_M_components 43 [.ref A_M, .int (nI i), .int (nI ((csk n up k).1 + 1)), .int (nI (csk n up k).2), .int (nI k), .int (nI p), .int (nI t)] [] h (asI K) := fun t ht htk hsub hcl p hp => by
    subst hp
    have e : p = cmp n up k := sub_eq h6 ht klt hsub (fun a ha hq => cmk_min htk hcl _ a ha hq)
    subst e
    refine w_M_components_43 fM ⟨fun _ => ?_, fun hq => absurd rfl hq⟩
    rw [nm_or _ c64 _ (cmp64 w hk), nI_add]
    exact i1
  have go : ∀ m p t, p < 64 → t < 2 ^ n → t.testBit k = true → (∀ a, a < n → t.testBit a = true → (cmp n up k).testBit a = true) → (p = t → Cl n up t) → 7 ≤ pop t + m → Ev (d + 2) g g m_M_components 43 [.ref A_M, .int (nI i), .int (nI ((csk n up k).1 + 1)), .int (nI (csk n up k).2), .int (nI k), .int (nI p), .int (nI t)] [] h (asI K) := by
    intro m
    induction m with
    | zero =>
      intro p t _ ht _ _ _ hm
      have := pop_le6 n h6 t ht
      omega
    | succ m ihm =>
      intro p t hp64 ht htk hsub hpt hm
      have t64 : t < 64 := Nat.lt_of_lt_of_le ht (p2_le h6)
      by_cases hpe : p = t
      · exact fin t ht htk hsub (hpt hpe) p hpe
      refine w_M_components_43 fM (br_eq t p rfl rfl (fun hq => absurd hq.symm hpe) fun _ => ?_)
      refine for_up (σ := Nat) (fun a t' => Ev (d + 2) g g m_M_components 57 [.ref A_M, .int (nI i), .int (nI ((csk n up k).1 + 1)), .int (nI (csk n up k).2), .int (nI k), .int (nI t), .int (nI t'), .int (nI a)] [] h (asI K)) (fun a t' => (t' < 2 ^ n ∧ (∀ b, b < n → t.testBit b = true → t'.testBit b = true) ∧ ∀ b, b < n → t'.testBit b = true → (cmp n up k).testBit b = true) ∧ ∀ a', a' < a → ∀ b, b < n → t.testBit a' = true → rel up a' b = true → t'.testBit b = true) n (fun t' ht' => ?_) (fun a t' ha ht' ih2 => ?_) 0 t (Nat.zero_le _) ⟨⟨ht, fun _ _ hq => hq, hsub⟩, fun a' hq => by omega⟩
      · refine w_M_components_57 fM ⟨vp_in_nI hi (by decide), ?_⟩
        rw [nI_clamp (by omega)]
        refine br_le n n o.1 rfl (fun _ => ?_) (fun hq => by omega)
        by_cases e : t = t'
        · subst e
          exact fin t ht htk hsub (fun a ha b hb h1 h2 => ht'.2 a ha b hb h1 h2) t rfl
        · have := sub_grow h6 ht ht'.1.1 ht'.1.2.1 e
          exact ihm t t' t64 ht'.1.1 (ht'.1.2.1 k hk htk) ht'.1.2.2 (fun hq => absurd hq e) (by omega)
      · refine w_M_components_57 fM ⟨vp_in_nI hi (by decide), ?_⟩
        rw [nI_clamp (by omega)]
        refine br_le n a o.1 rfl (fun hq => by omega) fun _ => ?_
        refine for_up (σ := Nat) (fun b t' => Ev (d + 2) g g m_M_components 71 [.ref A_M, .int (nI i), .int (nI ((csk n up k).1 + 1)), .int (nI (csk n up k).2), .int (nI k), .int (nI t), .int (nI t'), .int (nI a), .int (nI b)] [] h (asI K)) (fun b t' => ((t' < 2 ^ n ∧ (∀ b, b < n → t.testBit b = true → t'.testBit b = true) ∧ ∀ b, b < n → t'.testBit b = true → (cmp n up k).testBit b = true) ∧ ∀ a', a' < a → ∀ b, b < n → t.testBit a' = true → rel up a' b = true → t'.testBit b = true) ∧ ∀ b', b' < b → t.testBit a = true → rel up a b' = true → t'.testBit b' = true) n (fun t2 ht2 => ?_) (fun b t2 hb ht2 ih3 => ?_) 0 t' (Nat.zero_le _) ⟨ht', fun b' hq => by omega⟩
        · refine w_M_components_71 fM ⟨vp_in_nI hi (by decide), ?_⟩
          rw [nI_clamp (by omega), nI_add]
          refine br_le n n o.1 rfl (fun _ => ih2 t2 ⟨ht2.1.1, fun a' ha' => ?_⟩) (fun hq => by omega)
          by_cases e : a' = a
          · subst e; exact ht2.2
          · exact ht2.1.2 a' (by omega)
        · have u64 : t2 < 64 := Nat.lt_of_lt_of_le ht2.1.1.1 (p2_le h6)
          refine w_M_components_71 fM ⟨vp_in_nI hi (by decide), ?_⟩
          rw [nI_clamp (by omega), nI_add, nI_add, nm_tb _ u64 a (by omega), nm_bit1 b (by omega), nm_or _ u64 _ (p2_lt (by omega))]
          have stay : (t.testBit a = true → rel up a b = true → t2.testBit b = true) → Ev (d + 2) g g m_M_components 71 [.ref A_M, .int (nI i), .int (nI ((csk n up k).1 + 1)), .int (nI (csk n up k).2), .int (nI k), .int (nI t), .int (nI t2), .int (nI a), .int (nI (b + 1))] [] h (asI K) := fun hq => ih3 t2 ⟨ht2.1, fun b' hb' => by
            by_cases e : b' = b
            · subst e; exact hq
            · exact ht2.2 b' (by omega)⟩
          refine br_le n b o.1 rfl (fun hq => by omega) fun _ => br_tb1 (fun hq => stay fun h1 => ?_) (fun hq => S_MareRelated fM hi o w ha hb fun _ => br_b (fun hr => stay fun _ h2 => ?_) (fun hr => ih3 (t2 ||| 2 ^ b) ?_))
          · rw [ht2.1.1.2.1 a ha h1] at hq
            cases hq
          · rw [hr] at h2
            cases h2
          · have orl : ∀ c, t2.testBit c = true → (t2 ||| 2 ^ b).testBit c = true := fun c hc => by rw [Nat.testBit_or, hc]; rfl
            refine ⟨⟨⟨Nat.or_lt_two_pow ht2.1.1.1 (Nat.pow_lt_pow_right (by decide) hb), fun c hc h1 => orl c (ht2.1.1.2.1 c hc h1), fun c hc h1 => ?_⟩, fun a' ha' c hc h1 h2 => orl c (ht2.1.2 a' ha' c hc h1 h2)⟩, fun b' hb' h1 h2 => ?_⟩
            · rw [Nat.testBit_or, Bool.or_eq_true] at h1
              rcases h1 with h1 | h1
              · exact ht2.1.1.2.2 c hc h1
              · rw [Nat.testBit_two_pow, decide_eq_true_eq] at h1
                subst h1
                exact kcl a ha b hb (ht2.1.1.2.2 a ha hq) hr
            · by_cases e : b' = b
              · subst e
                rw [Nat.testBit_or, Nat.testBit_two_pow, decide_eq_true rfl, Bool.or_true]
              · exact orl b' (ht2.2 b' (by omega) h1 h2)
  have k2 : (2 ^ k).testBit k = true := by rw [Nat.testBit_two_pow, decide_eq_true_eq]
  refine go 6 0 (2 ^ k) (by decide) (Nat.pow_lt_pow_right (by decide) hk) k2 (fun a ha hq => ?_) (fun hq => absurd hq.symm (Nat.ne_of_gt (p2_pos k))) (by rw [pop_bit k (by omega)]; decide)
  rw [Nat.testBit_two_pow, decide_eq_true_eq] at hq
  subst hq
  exact cmk_x hk _
end COMP

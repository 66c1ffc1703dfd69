/-! maps between posets: the mathematics, and the reference -/
def imS (f : Nat → Nat) (s : Nat) : Nat → Nat
  | 0 => 0
  | k + 1 => bif s.testBit k then imS f s k ||| 2 ^ f k else imS f s k
theorem imS_t {f : Nat → Nat} {s k : Nat} (e : s.testBit k = true) : imS f s (k + 1) = imS f s k ||| 2 ^ f k := by show (bif s.testBit k then imS f s k ||| 2 ^ f k else imS f s k) = _; rw [e]; rfl
theorem imS_f {f : Nat → Nat} {s k : Nat} (e : s.testBit k = false) : imS f s (k + 1) = imS f s k := by show (bif s.testBit k then imS f s k ||| 2 ^ f k else imS f s k) = _; rw [e]; rfl
theorem imS_congr {f f2 : Nat → Nat} {s : Nat} : ∀ k, (∀ x, x < k → f x = f2 x) → imS f s k = imS f2 s k
  | 0, _ => rfl
  | k + 1, h => by unfold imS; rw [imS_congr k fun x hx => h x (by omega), h k (by omega)]
theorem imS_lt {f : Nat → Nat} {s : Nat} : ∀ k, (∀ x, x < k → f x < 6) → imS f s k < 64
  | 0, _ => by show 0 < 64; decide
  | k + 1, h => by
    have i1 := imS_lt (f := f) (s := s) k fun x hx => h x (by omega)
    cases e : s.testBit k
    · rw [imS_f e]; exact i1
    · rw [imS_t e]; exact or64 i1 (p2_lt (h k (by omega)))
def kp (n1 : Nat) (u1 u2 f : Nat → Nat) : Prop := ∀ x y, x < n1 → y < n1 → le u1 x y = true → le u2 (f x) (f y) = true
def rfl3 (n1 : Nat) (u1 u2 f : Nat → Nat) : Prop := ∀ x y, x < n1 → y < n1 → le u1 x y = false → le u2 (f x) (f y) = false
def bdP (n1 : Nat) (u1 u2 f : Nat → Nat) : Prop := ∀ x, x < n1 → u2 (f x) &&& (imS f (u1 x) n1 ^^^ 63) = 0
def rcP (n1 n2 : Nat) (f : Nat → Nat) : Prop := imS f (2 ^ n1 - 1) n1 = 2 ^ n2 - 1
def okP (n1 n2 : Nat) (u1 u2 : Nat → Nat) (k : Nat) (f : Nat → Nat) : Prop := kp n1 u1 u2 f ∧ (k = 1 → bdP n1 u1 u2 f) ∧ (k = 2 → rcP n1 n2 f ∧ bdP n1 u1 u2 f) ∧ (k = 3 → rfl3 n1 u1 u2 f)
theorem bd_congr {n1 : Nat} {u1 u2 f f2 : Nat → Nat} (h : ∀ x, x < n1 → f x = f2 x) (b : bdP n1 u1 u2 f) : bdP n1 u1 u2 f2 := fun x hx => by
  rw [← h x hx, ← imS_congr n1 h]
  exact b x hx
theorem ok_congr {n1 n2 k : Nat} {u1 u2 f f2 : Nat → Nat} (h : ∀ x, x < n1 → f x = f2 x) (o : okP n1 n2 u1 u2 k f) : okP n1 n2 u1 u2 k f2 := by
  refine ⟨fun x y hx hy e => ?_, fun e => bd_congr h (o.2.1 e), fun e => ⟨?_, bd_congr h (o.2.2.1 e).2⟩, fun e x y hx hy e2 => ?_⟩
  · rw [← h x hx, ← h y hy]; exact o.1 x y hx hy e
  · unfold rcP; rw [← imS_congr n1 h]; exact (o.2.2.1 e).1
  · rw [← h x hx, ← h y hy]; exact o.2.2.2 e x y hx hy e2
def dec (n1 n2 c x : Nat) : Nat := c / n2 ^ (n1 - 1 - x) % n2
noncomputable def AM (n1 n2 : Nat) (u1 u2 : Nat → Nat) (k c : Nat) : Bool := @decide (okP n1 n2 u1 u2 k (dec n1 n2 c)) (Classical.propDecidable _)
theorem AM_t {n1 n2 : Nat} {u1 u2 : Nat → Nat} {k c : Nat} (h : okP n1 n2 u1 u2 k (dec n1 n2 c)) : AM n1 n2 u1 u2 k c = true := @decide_eq_true _ (Classical.propDecidable _) h
theorem AM_f {n1 n2 : Nat} {u1 u2 : Nat → Nat} {k c : Nat} (h : ¬ okP n1 n2 u1 u2 k (dec n1 n2 c)) : AM n1 n2 u1 u2 k c = false := @decide_eq_false _ (Classical.propDecidable _) h
def val (n2 : Nat) (f : Nat → Nat) : Nat → Nat
  | 0 => 0
  | j + 1 => val n2 f j * n2 + f j
theorem val_lt {n2 : Nat} {f : Nat → Nat} : ∀ j, (∀ x, x < j → f x < n2) → val n2 f j < n2 ^ j
  | 0, _ => by show 0 < 1; decide
  | j + 1, h => by
    have i1 := val_lt (f := f) j fun x hx => h x (by omega)
    have h2 := h j (by omega)
    show val n2 f j * n2 + f j < n2 ^ (j + 1)
    rw [Nat.pow_succ]
    have h3 : (val n2 f j + 1) * n2 ≤ n2 ^ j * n2 := Nat.mul_le_mul_right _ i1
    rw [Nat.succ_mul] at h3
    omega
theorem val_congr {n2 : Nat} {f f2 : Nat → Nat} : ∀ j, (∀ x, x < j → f x = f2 x) → val n2 f j = val n2 f2 j
  | 0, _ => rfl
  | j + 1, h => by unfold val; rw [val_congr j fun x hx => h x (by omega), h j (by omega)]
theorem val_dig {n2 : Nat} {f : Nat → Nat} : ∀ j x, x < j → (∀ y, y < j → f y < n2) → val n2 f j / n2 ^ (j - 1 - x) % n2 = f x
  | 0, x, hx, _ => by omega
  | j + 1, x, hx, h => by
    have h2 := h j (by omega)
    have e0 : val n2 f (j + 1) / n2 = val n2 f j := Nat.div_eq_of_lt_le (Nat.le_add_right _ _) (by rw [Nat.succ_mul]; show val n2 f j * n2 + f j < _; omega)
    by_cases e : x = j
    · subst e
      rw [show x + 1 - 1 - x = 0 by omega, Nat.pow_zero, Nat.div_one]
      exact Nat.mul_add_mod_of_lt h2
    · rw [show j + 1 - 1 - x = (j - 1 - x) + 1 by omega, Nat.pow_succ, Nat.mul_comm, ← Nat.div_div_eq_div_mul, e0]
      exact val_dig j x (by omega) fun y hy => h y (by omega)
theorem dec_pre {n1 n2 j c x : Nat} {f : Nat → Nat} (hj : j ≤ n1) (hx : x < j) (h : ∀ y, y < j → f y < n2) (hc : c / n2 ^ (n1 - j) = val n2 f j) : dec n1 n2 c x = f x := by
  unfold dec
  rw [show n1 - 1 - x = (n1 - j) + (j - 1 - x) by omega, Nat.pow_add, ← Nat.div_div_eq_div_mul, hc]
  exact val_dig j x hx h
theorem dec_lt {n1 n2 c x : Nat} (h : 0 < n2) : dec n1 n2 c x < n2 := Nat.mod_lt _ h
theorem ck_flat {P : Nat → Bool} {lo : Nat} : ∀ m, (∀ c, lo ≤ c → c < lo + m → P c = false) → ck P (lo + m) = ck P lo
  | 0, _ => rfl
  | m + 1, h => by
    show ck P (lo + m) + (bif P (lo + m) then 1 else 0) = ck P lo
    rw [h (lo + m) (by omega) (by omega), ck_flat m fun c h1 h2 => h c h1 (by omega)]
    rfl
theorem ck_mono {P : Nat → Bool} {lo : Nat} : ∀ m, ck P lo ≤ ck P (lo + m)
  | 0 => Nat.le_refl _
  | m + 1 => by
    have := ck_mono (P := P) (lo := lo) m
    show ck P lo ≤ ck P (lo + m) + (bif P (lo + m) then 1 else 0)
    omega
theorem ck_zero {P : Nat → Bool} {c k : Nat} (h : ck P k = 0) (hc : c < k) : P c = false := by
  cases e : P c
  · rfl
  · have h1 : ck P (c + 1) = ck P c + 1 := by show ck P c + (bif P c then 1 else 0) = _; rw [e]; rfl
    have h2 := ck_mono (P := P) (lo := c + 1) (k - (c + 1))
    rw [show c + 1 + (k - (c + 1)) = k by omega] at h2
    omega
theorem ffn_uniq {P : Nat → Bool} {V c : Nat} (hc : c < V) (hp : P c = true) (hn : ∀ c', c' < c → P c' = false) : ffn P V 0 = c := by
  have J : ∀ k, k ≤ c → ffn P V 0 = ffn P (V - k) k := by
    intro k
    induction k with
    | zero => intro _; rfl
    | succ k ih => intro hk; exact ffn_step (by omega) (hn k (by omega)) (ih (by omega))
  exact ffn_hit hc hp (J c (Nat.le_refl _))
theorem pow6 : ∀ a, a < 7 → ∀ b, b < 7 → b ^ a ≤ 46656 := by decide
def digs (f : Nat → Nat) : Nat → Nat
  | 0 => 0
  | k + 1 => digs f k * 10 + f k
theorem digs_congr {f f2 : Nat → Nat} : ∀ k, (∀ x, x < k → f x = f2 x) → digs f k = digs f2 k
  | 0, _ => rfl
  | k + 1, h => by unfold digs; rw [digs_congr k fun x hx => h x (by omega), h k (by omega)]
/-! the reference's tests of a map -/
section MTEST
variable {d g i j n1 n2 : Nat} {u1 u2 f : Nat → Nat} {h : AH} {K : Int32 → AH → Prop}
theorem S_Mkeeps (fM : is_M h) (hi : i < 4) (hj : j < 4) (o1 : MO h i n1 u1) (o2 : MO h j n2 u2) (w1 : wfP n1 u1) (w2 : wfP n2 u2) (hm : ∀ x, x < n1 → mi h M_map x = nI (f x) ∧ f x < n2) (Y : kp n1 u1 u2 f → K (nI 1) h) (N : ¬ kp n1 u1 u2 f → K (nI 0) h) : Ev (d + 1) g g m_M_keepsOrder 0 [.ref A_M, .int (nI i), .int (nI j)] [] h (asI K) := by
  have h1 := w1.1.2
  have h2 := w2.1.2
  have vi : vp_in (nI i) 5 := vp_in_nI (by omega) (by decide)
  refine w_M_keepsOrder_0 fM ?_
  refine for_up (σ := Unit) (fun x _ => Ev (d + 1) g g m_M_keepsOrder 2 [.ref A_M, .int (nI i), .int (nI j), .int (nI x)] [] h (asI K)) (fun x _ => ∀ x' y, x' < x → y < n1 → le u1 x' y = true → le u2 (f x') (f y) = true) n1 (fun _ hI => ?_) (fun x _ hx hI ih => ?_) 0 () (Nat.zero_le _) (fun x' y z => by omega)
  · refine w_M_keepsOrder_2 fM ⟨vi, ?_⟩
    rw [nI_clamp (n := i) (by omega), o1.1]
    exact br_le _ _ rfl rfl (fun _ => Y hI) (fun z => by omega)
  refine w_M_keepsOrder_2 fM ⟨vi, ?_⟩
  rw [nI_clamp (n := i) (by omega), o1.1]
  refine br_le _ x rfl rfl (fun z => by omega) (fun _ => ?_)
  refine for_up (σ := Unit) (fun y _ => Ev (d + 1) g g m_M_keepsOrder 15 [.ref A_M, .int (nI i), .int (nI j), .int (nI x), .int (nI y)] [] h (asI K)) (fun y _ => ∀ y', y' < y → le u1 x y' = true → le u2 (f x) (f y') = true) n1 (fun _ hJ => ?_) (fun y _ hy hJ ih2 => ?_) 0 () (Nat.zero_le _) (fun y' z => by omega)
  · refine w_M_keepsOrder_15 fM ⟨vi, ?_⟩
    rw [nI_clamp (n := i) (by omega), o1.1]
    refine br_le _ _ rfl rfl (fun _ => ?_) (fun z => by omega)
    rw [nI_add]
    refine ih () fun x' y hx' hy => ?_
    by_cases e : x' = x
    · subst e; exact hJ y hy
    · exact hI x' y (by omega) hy
  · refine w_M_keepsOrder_15 fM ⟨vi, ?_⟩
    rw [nI_clamp (n := i) (by omega), o1.1, nI_add y 1]
    have fx := hm x hx
    have fy := hm y hy
    have go : (le u1 x y = true → le u2 (f x) (f y) = true) → Ev (d + 1) g g m_M_keepsOrder 15 [.ref A_M, .int (nI i), .int (nI j), .int (nI x), .int (nI (y + 1))] [] h (asI K) := fun q => ih2 () fun y' hy' => by
      by_cases e : y' = y
      · subst e; exact q
      · exact hJ y' (by omega)
    refine br_le _ y rfl rfl (fun z => by omega) (fun _ => S_MisLess fM (by omega) o1 h1 (w1.u64 hx) hx (by omega) fun _ => br_b (fun e => go fun q => ?_) (fun e => ⟨vp_in_nI (by omega) (by decide), vp_in_nI (by omega) (by decide), ?_⟩))
    · rw [e] at q; cases q
    · rw [nI_clamp (n := x) (by omega), nI_clamp (n := y) (by omega), fx.1, fy.1]
      refine S_MisLess fM (by omega) o2 h2 (w2.u64 fx.2) fx.2 (by omega) fun _ => br_nb (fun e2 => N fun q => ?_) (fun e2 => go fun _ => e2)
      have := q x y hx hy e
      rw [e2] at this
      cases this
theorem S_Mreflects (fM : is_M h) (hi : i < 4) (hj : j < 4) (o1 : MO h i n1 u1) (o2 : MO h j n2 u2) (w1 : wfP n1 u1) (w2 : wfP n2 u2) (hm : ∀ x, x < n1 → mi h M_map x = nI (f x) ∧ f x < n2) (Y : rfl3 n1 u1 u2 f → K (nI 1) h) (N : ¬ rfl3 n1 u1 u2 f → K (nI 0) h) : Ev (d + 1) g g m_M_reflectsOrder 0 [.ref A_M, .int (nI i), .int (nI j)] [] h (asI K) := by
  have h1 := w1.1.2
  have h2 := w2.1.2
  have vi : vp_in (nI i) 5 := vp_in_nI (by omega) (by decide)
  refine w_M_reflectsOrder_0 fM ?_
  refine for_up (σ := Unit) (fun x _ => Ev (d + 1) g g m_M_reflectsOrder 2 [.ref A_M, .int (nI i), .int (nI j), .int (nI x)] [] h (asI K)) (fun x _ => ∀ x' y, x' < x → y < n1 → le u1 x' y = false → le u2 (f x') (f y) = false) n1 (fun _ hI => ?_) (fun x _ hx hI ih => ?_) 0 () (Nat.zero_le _) (fun x' y z => by omega)
  · refine w_M_reflectsOrder_2 fM ⟨vi, ?_⟩
    rw [nI_clamp (n := i) (by omega), o1.1]
    exact br_le _ _ rfl rfl (fun _ => Y hI) (fun z => by omega)
  refine w_M_reflectsOrder_2 fM ⟨vi, ?_⟩
  rw [nI_clamp (n := i) (by omega), o1.1]
  refine br_le _ x rfl rfl (fun z => by omega) (fun _ => ?_)
  refine for_up (σ := Unit) (fun y _ => Ev (d + 1) g g m_M_reflectsOrder 15 [.ref A_M, .int (nI i), .int (nI j), .int (nI x), .int (nI y)] [] h (asI K)) (fun y _ => ∀ y', y' < y → le u1 x y' = false → le u2 (f x) (f y') = false) n1 (fun _ hJ => ?_) (fun y _ hy hJ ih2 => ?_) 0 () (Nat.zero_le _) (fun y' z => by omega)
  · refine w_M_reflectsOrder_15 fM ⟨vi, ?_⟩
    rw [nI_clamp (n := i) (by omega), o1.1]
    refine br_le _ _ rfl rfl (fun _ => ?_) (fun z => by omega)
    rw [nI_add]
    refine ih () fun x' y hx' hy => ?_
    by_cases e : x' = x
    · subst e; exact hJ y hy
    · exact hI x' y (by omega) hy
  · refine w_M_reflectsOrder_15 fM ⟨vi, ?_⟩
    rw [nI_clamp (n := i) (by omega), o1.1, nI_add y 1]
    have fx := hm x hx
    have fy := hm y hy
    have go : (le u1 x y = false → le u2 (f x) (f y) = false) → Ev (d + 1) g g m_M_reflectsOrder 15 [.ref A_M, .int (nI i), .int (nI j), .int (nI x), .int (nI (y + 1))] [] h (asI K) := fun q => ih2 () fun y' hy' => by
      by_cases e : y' = y
      · subst e; exact q
      · exact hJ y' (by omega)
    refine br_le _ y rfl rfl (fun z => by omega) (fun _ => S_MisLess fM (by omega) o1 h1 (w1.u64 hx) hx (by omega) fun _ => br_nb (fun e => ⟨vp_in_nI (by omega) (by decide), vp_in_nI (by omega) (by decide), ?_⟩) (fun e => go fun q => ?_))
    rotate_left
    · rw [e] at q; cases q
    · rw [nI_clamp (n := x) (by omega), nI_clamp (n := y) (by omega), fx.1, fy.1]
      refine S_MisLess fM (by omega) o2 h2 (w2.u64 fx.2) fx.2 (by omega) fun _ => br_b (fun e2 => go fun _ => e2) (fun e2 => N fun q => ?_)
      have := q x y hx hy e
      rw [e2] at this
      cases this
theorem S_Mbounded (fM : is_M h) (hi : i < 4) (hj : j < 4) (o1 : MO h i n1 u1) (o2 : MO h j n2 u2) (w1 : wfP n1 u1) (w2 : wfP n2 u2) (hm : ∀ x, x < n1 → mi h M_map x = nI (f x) ∧ f x < n2) (Y : bdP n1 u1 u2 f → K (nI 1) h) (N : ¬ bdP n1 u1 u2 f → K (nI 0) h) : Ev (d + 1) g g m_M_isBounded 0 [.ref A_M, .int (nI i), .int (nI j)] [] h (asI K) := by
  have h1 := w1.1.2
  have h2 := w2.1.2
  have vi : vp_in (nI i) 5 := vp_in_nI (by omega) (by decide)
  have f6 : ∀ k, k ≤ n1 → ∀ x, x < k → f x < 6 := fun k hk x hx => by have := (hm x (by omega)).2; omega
  refine w_M_isBounded_0 fM ?_
  refine for_up (σ := Unit) (fun x _ => Ev (d + 1) g g m_M_isBounded 2 [.ref A_M, .int (nI i), .int (nI j), .int (nI x)] [] h (asI K)) (fun x _ => ∀ x', x' < x → u2 (f x') &&& (imS f (u1 x') n1 ^^^ 63) = 0) n1 (fun _ hI => ?_) (fun x _ hx hI ih => ?_) 0 () (Nat.zero_le _) (fun x' z => by omega)
  · refine w_M_isBounded_2 fM ⟨vi, ?_⟩
    rw [nI_clamp (n := i) (by omega), o1.1]
    exact br_le _ _ rfl rfl (fun _ => Y hI) (fun z => by omega)
  refine w_M_isBounded_2 fM ⟨vi, ?_⟩
  rw [nI_clamp (n := i) (by omega), o1.1]
  refine br_le _ x rfl rfl (fun z => by omega) (fun _ => ?_)
  have fx := hm x hx
  refine for_up (σ := Unit) (fun y _ => Ev (d + 1) g g m_M_isBounded 18 [.ref A_M, .int (nI i), .int (nI j), .int (nI x), .int (nI (imS f (u1 x) y)), .int (nI y)] [] h (asI K)) (fun _ _ => True) n1 (fun _ _ => ?_) (fun y _ hy _ ih2 => ?_) 0 () (Nat.zero_le _) trivial
  · refine w_M_isBounded_18 fM ⟨vi, ?_⟩
    have fx2 := fx.2
    have e := nm_dif (u2 (f x)) (w2.u64 fx.2) (imS f (u1 x) n1) (imS_lt n1 (f6 n1 (Nat.le_refl _)))
    unfold m1 at e
    rw [nI_clamp (n := i) (by omega), o1.1, nI_clamp (n := x) (by omega), fx.1, nI_ix, nI_clamp (n := 6 * j + f x) (by omega), o2.2 _ fx.2, e, nI_add]
    refine br_le _ _ rfl rfl (fun _ => ⟨vp_in_nI (by omega) (by decide), vp_in_nI (by omega) (by decide), ?_⟩) (fun z => by omega)
    have l64 := and64 (b := imS f (u1 x) n1 ^^^ 63) (w2.u64 fx.2)
    refine br_eq (u2 (f x) &&& (imS f (u1 x) n1 ^^^ 63)) 0 rfl rfl (fun z => ih () fun x' hx' => ?_) (fun z => N fun q => z (q x hx))
    by_cases e : x' = x
    · subst e; exact z
    · exact hI x' (by omega)
  · have i1 := ih2 () trivial
    have fy := hm y hy
    have fy2 := fy.2
    refine w_M_isBounded_18 fM ⟨vi, ?_⟩
    have l64 := imS_lt (f := f) (s := u1 x) y (f6 y (by omega))
    rw [nI_clamp (n := i) (by omega), o1.1, nI_add y 1, nI_clamp (n := y) (by omega)]
    refine br_le _ y rfl rfl (fun z => by omega) (fun _ => S_MisLess fM (by omega) o1 h1 (w1.u64 hx) hx (by omega) fun _ => br_b (fun e => ?_) (fun e => ⟨vp_in_nI (by omega) (by decide), ?_⟩))
    · rw [nm_or _ l64 0 (by decide), Nat.or_zero]
      rw [imS_f e] at i1
      exact i1
    · rw [fy.1, nm_bit1 (f y) (by omega), nm_or _ l64 _ (p2_lt (by omega))]
      rw [imS_t e] at i1
      exact i1
theorem S_Mreaches (fM : is_M h) (hi : i < 4) (hj : j < 4) (o1 : MO h i n1 u1) (o2 : MO h j n2 u2) (w1 : wfP n1 u1) (w2 : wfP n2 u2) (hm : ∀ x, x < n1 → mi h M_map x = nI (f x) ∧ f x < n2) (Y : rcP n1 n2 f → K (nI 1) h) (N : ¬ rcP n1 n2 f → K (nI 0) h) : Ev (d + 1) g g m_M_reachesAll 0 [.ref A_M, .int (nI i), .int (nI j)] [] h (asI K) := by
  have h1 := w1.1.2
  have h2 := w2.1.2
  have vi : vp_in (nI i) 5 := vp_in_nI (by omega) (by decide)
  have f6 : ∀ k, k ≤ n1 → ∀ x, x < k → f x < 6 := fun k hk x hx => by have := (hm x (by omega)).2; omega
  have p1 := p2_le h2
  have p2 := p2_pos n2
  refine w_M_reachesAll_0 fM ?_
  refine for_up (σ := Unit) (fun y _ => Ev (d + 1) g g m_M_reachesAll 5 [.ref A_M, .int (nI i), .int (nI j), .int (nI (imS f (2 ^ n1 - 1) y)), .int (nI y)] [] h (asI K)) (fun _ _ => True) n1 (fun _ _ => ?_) (fun y _ hy _ ih2 => ?_) 0 () (Nat.zero_le _) trivial
  · refine w_M_reachesAll_5 fM ⟨vi, ?_⟩
    have l64 := imS_lt (f := f) (s := 2 ^ n1 - 1) n1 (f6 n1 (Nat.le_refl _))
    rw [nI_clamp (n := i) (by omega), o1.1]
    refine br_le _ _ rfl rfl (fun _ => S_MallOf fM (by omega) o2.1 h2 fun _ => ?_) (fun z => by omega)
    exact br_ne (imS f (2 ^ n1 - 1) n1) (2 ^ n2 - 1) rfl rfl Y N
  · have i1 := ih2 () trivial
    have fy := hm y hy
    have fy2 := fy.2
    refine w_M_reachesAll_5 fM ⟨vi, ?_⟩
    have l64 := imS_lt (f := f) (s := 2 ^ n1 - 1) y (f6 y (by omega))
    rw [nI_clamp (n := i) (by omega), o1.1, nI_add y 1, nI_clamp (n := y) (by omega), fy.1, nm_bit1 (f y) (by omega), nm_or _ l64 _ (p2_lt (by omega))]
    rw [imS_t (by rw [Nat.testBit_two_pow_sub_one]; exact decide_eq_true hy)] at i1
    exact br_le _ y rfl rfl (fun z => by omega) (fun _ => ⟨vp_in_nI (by omega) (by decide), i1⟩)
theorem S_MisOfKind {k : Nat} (hk : k < 4) (fM : is_M h) (hi : i < 4) (hj : j < 4) (o1 : MO h i n1 u1) (o2 : MO h j n2 u2) (w1 : wfP n1 u1) (w2 : wfP n2 u2) (hm : ∀ x, x < n1 → mi h M_map x = nI (f x) ∧ f x < n2) (Y : okP n1 n2 u1 u2 k f → K (nI 1) h) (N : ¬ okP n1 n2 u1 u2 k f → K (nI 0) h) : Ev (d + 2) g g m_M_isOfKind 0 [.ref A_M, .int (nI i), .int (nI j), .int (nI k)] [] h (asI K) := by
  refine w_M_isOfKind_0 fM (S_Mkeeps fM hi hj o1 o2 w1 w2 hm (fun q _ => ⟨fun _ => ?_, fun z => absurd z (by decide)⟩) (fun q _ => ⟨fun z => absurd rfl z, fun _ => N fun y => q y.1⟩))
  refine br_eq k 0 rfl rfl (fun e => ?_) (fun e => ?_)
  · subst e; exact Y ⟨q, fun z => by omega, fun z => by omega, fun z => by omega⟩
  refine br_ne k 1 rfl rfl (fun e => ?_) (fun e1 => ?_)
  · subst e
    refine S_Mbounded fM hi hj o1 o2 w1 w2 hm (fun y _ => ⟨fun _ => Y ⟨q, fun _ => y, fun z => by omega, fun z => by omega⟩, fun z => absurd z (by decide)⟩) (fun y _ => ⟨fun z => absurd rfl z, fun _ => ?_⟩)
    exact ⟨fun _ => ⟨fun _ => N fun z => y (z.2.1 rfl), fun z => absurd z (by decide)⟩, fun z => absurd z (by decide)⟩
  refine br_ne k 2 rfl rfl (fun e => ?_) (fun e2 => ?_)
  · subst e
    refine S_Mreaches fM hi hj o1 o2 w1 w2 hm (fun y _ => ⟨fun z => absurd z (by decide), fun _ => ?_⟩) (fun y _ => ⟨fun _ => ⟨fun _ => N fun z => y (z.2.2.1 rfl).1, fun z => absurd z (by decide)⟩, fun z => absurd rfl z⟩)
    refine S_Mbounded fM hi hj o1 o2 w1 w2 hm (fun y2 _ => ⟨fun _ => Y ⟨q, fun z => by omega, fun _ => ⟨y, y2⟩, fun z => by omega⟩, fun z => absurd z (by decide)⟩) (fun y2 _ => ⟨fun z => absurd rfl z, fun _ => ⟨fun _ => N fun z => y2 (z.2.2.1 rfl).2, fun z => absurd z (by decide)⟩⟩)
  refine br_ne k 3 rfl rfl (fun e => ?_) (fun e3 => by omega)
  subst e
  exact S_Mreflects fM hi hj o1 o2 w1 w2 hm (fun y _ => ⟨fun z => absurd z (by decide), fun _ => Y ⟨q, fun z => by omega, fun z => by omega, fun _ => y⟩⟩) (fun y _ => ⟨fun _ => N fun z => y (z.2.2.2 rfl), fun z => absurd rfl z⟩)
end MTEST

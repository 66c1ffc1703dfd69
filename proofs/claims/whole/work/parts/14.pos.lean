/-! posets: the mathematics of an order on few points, and the class's own reading of it -/
def bI (b : Bool) : Int32 := bif b then nI 1 else nI 0
theorem br_le {x y : Int32} {A B : Prop} (a b : Nat) (hx : x = nI a) (hy : y = nI b) (f : a ≤ b → A) (g : b < a → B) (ha : a < 2147483648 := by omega) (hb : b < 2147483648 := by omega) : (x ≤ y → A) ∧ (¬ x ≤ y → B) := by
  subst hx; subst hy
  have e := nI_leI (a := a) (b := b) ha hb
  exact ⟨fun h => f (e.mp h), fun h => g (Nat.not_le.mp fun z => h (e.mpr z))⟩
theorem br_lt {x y : Int32} {A B : Prop} (a b : Nat) (hx : x = nI a) (hy : y = nI b) (f : a < b → A) (g : b ≤ a → B) (ha : a < 2147483648 := by omega) (hb : b < 2147483648 := by omega) : (x < y → A) ∧ (¬ x < y → B) := by
  subst hx; subst hy
  have e := nI_ltI (a := a) (b := b) ha hb
  exact ⟨fun h => f (e.mp h), fun h => g (Nat.not_lt.mp fun z => h (e.mpr z))⟩
theorem br_eq {x y : Int32} {A B : Prop} (a b : Nat) (hx : x = nI a) (hy : y = nI b) (f : a = b → A) (g : a ≠ b → B) (ha : a < 2147483648 := by omega) (hb : b < 2147483648 := by omega) : (x = y → A) ∧ (¬ x = y → B) := by
  subst hx; subst hy
  have e := nI_eq (a := a) (b := b) ha hb
  exact ⟨fun h => f (e.mp h), fun h => g fun z => h (e.mpr z)⟩
theorem br_ne {x y : Int32} {A B : Prop} (a b : Nat) (hx : x = nI a) (hy : y = nI b) (f : a = b → A) (g : a ≠ b → B) (ha : a < 2147483648 := by omega) (hb : b < 2147483648 := by omega) : (¬ x = y → B) ∧ (x = y → A) := (br_eq a b hx hy f g ha hb).symm
theorem br_b {b : Bool} {A B : Prop} (f : b = false → A) (g : b = true → B) : (bI b = 0 → A) ∧ (¬ bI b = 0 → B) := by
  cases b
  · exact ⟨fun _ => f rfl, fun h => absurd rfl h⟩
  · exact ⟨fun h => absurd h (by decide), fun _ => g rfl⟩
theorem br_nb {b : Bool} {A B : Prop} (f : b = false → A) (g : b = true → B) : (¬ bI b = 0 → B) ∧ (bI b = 0 → A) := (br_b f g).symm
theorem br_tb {b : Bool} {A B : Prop} (f : b = false → A) (g : b = true → B) : (nI (if b = true then 1 else 0) = 0 → A) ∧ (¬ nI (if b = true then 1 else 0) = 0 → B) := by
  cases b
  · exact ⟨fun _ => f rfl, fun h => absurd rfl h⟩
  · exact ⟨fun h => absurd h (by decide), fun _ => g rfl⟩
/-- a call's argument: the number that it is, if it is below n -/
def ix (v : Int32) (n : Nat) : Option Nat := if 0 ≤ v.toInt ∧ v.toInt < n then some v.toInt.toNat else none
theorem ix_some {v : Int32} {n j : Nat} (h : ix v n = some j) : j < n ∧ v = nI j := by
  unfold ix at h
  split at h
  · rename_i hc
    cases h
    refine ⟨by omega, ?_⟩
    apply Int32.toInt_inj.mp
    have hv := Int32.toInt_lt v
    rw [nI_toInt (by omega)]
    omega
  · cases h
theorem ix_nI {n j : Nat} (h : j < n) (hn : n ≤ 2147483648) : ix (nI j) n = some j := by
  unfold ix
  rw [nI_toInt (by omega), if_pos (by omega)]
  rfl
/-- the two tests of a range -/
theorem br_ix {v : Int32} {n : Nat} {A B : Prop} (hn : n < 2147483648) (f : ix v n = none → A) (g : ∀ j, ix v n = some j → B) : (v < 0 → A) ∧ (¬ v < 0 → (nI n ≤ v → A) ∧ (¬ nI n ≤ v → B)) := by
  have h0 : v < 0 ↔ v.toInt < 0 := Int32.lt_iff_toInt_lt
  have h1 : nI n ≤ v ↔ (n : Int) ≤ v.toInt := by rw [Int32.le_iff_toInt_le, nI_toInt hn]
  refine ⟨fun h => f ?_, fun h => ⟨fun h2 => f ?_, fun h2 => g v.toInt.toNat ?_⟩⟩
  · unfold ix; rw [if_neg]; have := h0.mp h; omega
  · unfold ix; rw [if_neg]; have := h1.mp h2; omega
  · unfold ix
    rw [if_pos]
    have a1 : ¬ v.toInt < 0 := fun z => h (h0.mpr z)
    have a2 : ¬ (n : Int) ≤ v.toInt := fun z => h2 (h1.mpr z)
    omega
def le (up : Nat → Nat) (x y : Nat) : Bool := (up x).testBit y
def wfP (n : Nat) (up : Nat → Nat) : Prop := (1 ≤ n ∧ n ≤ 6) ∧ (∀ x, x < n → up x < 2 ^ n) ∧ (∀ x, x < n → le up x x = true) ∧ (∀ x y z, x < n → y < n → z < n → le up x y = true → le up y z = true → le up x z = true) ∧ ∀ x y, x < n → y < n → le up x y = true → le up y x = true → x = y
theorem wfP.u64 {n : Nat} {up : Nat → Nat} (w : wfP n up) {x : Nat} (hx : x < n) : up x < 64 := Nat.lt_of_lt_of_le (w.2.1 x hx) (p2_le w.1.2)
def dnk (up : Nat → Nat) (x : Nat) : Nat → Nat
  | 0 => 0
  | k + 1 => bif le up k x then dnk up x k ||| 2 ^ k else dnk up x k
theorem dnk_tb (up : Nat → Nat) (x : Nat) : ∀ k y, (dnk up x k).testBit y = (decide (y < k) && le up y x)
  | 0, y => by simp [dnk]
  | k + 1, y => by
    unfold dnk
    have ih := dnk_tb up x k y
    cases hb : le up k x with
    | true =>
      simp only [cond_true, Nat.testBit_or, ih, Nat.testBit_two_pow]
      rcases Nat.lt_trichotomy y k with h | h | h
      · simp [h, Nat.lt_succ_of_lt h, Nat.ne_of_gt h]
      · subst h; simp [hb]
      · simp [Nat.not_lt_of_gt h, Nat.ne_of_lt h, show ¬ y < k + 1 by omega]
    | false =>
      simp only [cond_false, ih]
      rcases Nat.lt_trichotomy y k with h | h | h
      · simp [h, Nat.lt_succ_of_lt h]
      · subst h; simp [hb]
      · simp [Nat.not_lt_of_gt h, show ¬ y < k + 1 by omega]
theorem dnk_lt (up : Nat → Nat) (x k : Nat) : dnk up x k < 2 ^ k := by
  apply Nat.lt_pow_two_of_testBit
  intro i hi
  rw [dnk_tb]
  simp [Nat.not_lt_of_ge hi]
def dsk (n : Nat) (up : Nat → Nat) (s : Nat) : Nat → Nat
  | 0 => 0
  | k + 1 => bif s.testBit k then dsk n up s k ||| dnk up k n else dsk n up s k
theorem dsk_tb (n : Nat) (up : Nat → Nat) (s : Nat) : ∀ k y, (dsk n up s k).testBit y = true ↔ ∃ x, x < k ∧ s.testBit x = true ∧ y < n ∧ le up y x = true
  | 0, y => by simp [dsk]
  | k + 1, y => by
    unfold dsk
    have ih := dsk_tb n up s k y
    cases hb : s.testBit k with
    | true =>
      simp only [cond_true, Nat.testBit_or, Bool.or_eq_true, ih, dnk_tb, Bool.and_eq_true, decide_eq_true_eq]
      constructor
      · rintro (⟨x, h1, h2⟩ | h)
        · exact ⟨x, by omega, h2⟩
        · exact ⟨k, by omega, hb, h⟩
      · rintro ⟨x, h1, h2, h3⟩
        by_cases hx : x = k
        · subst hx; exact Or.inr h3
        · exact Or.inl ⟨x, by omega, h2, h3⟩
    | false =>
      simp only [cond_false, ih]
      constructor
      · rintro ⟨x, h1, h2⟩
        exact ⟨x, by omega, h2⟩
      · rintro ⟨x, h1, h2, h3⟩
        by_cases hx : x = k
        · subst hx; rw [hb] at h2; cases h2
        · exact ⟨x, by omega, h2, h3⟩
theorem dsk_lt (n : Nat) (up : Nat → Nat) (s k : Nat) : dsk n up s k < 2 ^ n := by
  apply Nat.lt_pow_two_of_testBit
  intro i hi
  cases h : (dsk n up s k).testBit i with
  | false => rfl
  | true =>
    obtain ⟨x, -, -, h3, -⟩ := (dsk_tb n up s k i).mp h
    omega
theorem dsk_congr (n : Nat) (up : Nat → Nat) {s t : Nat} : ∀ k, (∀ j, j < k → s.testBit j = t.testBit j) → dsk n up s k = dsk n up t k
  | 0, _ => rfl
  | k + 1, h => by
    unfold dsk
    rw [h k (by omega), dsk_congr n up k fun j hj => h j (by omega)]
/-- the order as the class holds it -/
def PO (h : AH) (a n : Nat) (up : Nat → Nat) : Prop := mi h a 0 = nI n ∧ ∀ x, x < n → mi h (a + 1) x = nI (up x)
section PLEAF
variable {d g a n x y : Nat} {up : Nat → Nat} {h : AH} {K : Int32 → AH → Prop}
theorem S_allPoints (f : is_P h a) (hn : mi h a 0 = nI n) (h6 : n ≤ 6) (hK : K (nI (2 ^ n - 1)) h) : Ev d g g m_P_allPoints 0 [.ref a] [] h (asI K) := by
  refine w_P_allPoints_0 f ?_
  rw [hn, nm_bit1 n (by omega), pk_sub (p2_pos n)]
  exact hK
theorem S_below (f : is_P h a) (o : PO h a n up) (w : wfP n up) (hx : x < n) (hy : y < n) (hK : K (bI (le up x y)) h) : Ev d g g m_P_below 0 [.ref a, .int (nI x), .int (nI y)] [] h (asI K) := by
  have h6 := w.1.2
  refine w_P_below_0 f ⟨vp_in_nI (by omega) (by decide), ?_⟩
  rw [nI_clamp (by omega), o.2 x hx, nm_tb _ (w.u64 hx) _ (by omega)]
  exact br_tb (fun e => by unfold le at hK; rw [e] at hK; exact hK) (fun e => by unfold le at hK; rw [e] at hK; exact hK)
theorem S_hasPoint {v : Int32} (f : is_P h a) (hn : mi h a 0 = nI n) (h6 : n ≤ 6) (hK : K (bI (ix v n).isSome) h) : Ev d g g m_P_hasPoint 0 [.ref a, .int v] [] h (asI K) := by
  refine w_P_hasPoint_0 f ?_
  rw [hn]
  exact br_ix (by omega) (fun e => by rw [e] at hK; exact hK) (fun j e => by rw [e] at hK; exact hK)
theorem S_hasElement {v : Int32} (f : is_P h a) (hn : mi h a 3 = nI n) (h6 : n ≤ 64) (hK : K (bI (ix v n).isSome) h) : Ev d g g m_P_hasElement 0 [.ref a, .int v] [] h (asI K) := by
  refine w_P_hasElement_0 f ?_
  rw [hn]
  exact br_ix (by omega) (fun e => by rw [e] at hK; exact hK) (fun j e => by rw [e] at hK; exact hK)
theorem S_pointsBelow (f : is_P h a) (o : PO h a n up) (w : wfP n up) (hx : x < n) (hK : K (nI (dnk up x n)) h) : Ev (d + 1) g g m_P_pointsBelow 0 [.ref a, .int (nI x)] [] h (asI K) := by
  have h6 := w.1.2
  refine w_P_pointsBelow_0 f ?_
  refine for_up (σ := Unit) (fun k _ => Ev (d + 1) g g m_P_pointsBelow 4 [.ref a, .int (nI x), .int (nI (dnk up x k)), .int (nI k)] [] h (asI K)) (fun _ _ => True) n (fun _ _ => ?_) (fun k _ hk _ ih => ?_) 0 () (Nat.zero_le _) trivial
  · exact w_P_pointsBelow_4 f (br_le n n o.1 rfl (fun _ => hK) (fun z => by omega))
  · have i1 := ih () trivial
    refine w_P_pointsBelow_4 f (br_le n k o.1 rfl (fun z => by omega) (fun _ => ?_))
    refine S_below f o w hk hx fun _ => ?_
    refine br_b (fun e => ?_) (fun e => ?_)
    · rw [nI_add]
      unfold dnk at i1
      rw [e] at i1
      exact i1
    · rw [nI_add, nm_bit1 k (by omega), nm_or _ (Nat.lt_of_lt_of_le (dnk_lt up x k) (p2_le (by omega))) _ (Nat.lt_of_lt_of_le (Nat.pow_lt_pow_right (by decide) (by omega : k < 6)) (by decide))]
      unfold dnk at i1
      rw [e] at i1
      exact i1
theorem S_greaterPoints (f : is_P h a) (o : PO h a n up) (w : wfP n up) (hx : x < n) (hK : K (nI (up x &&& (2 ^ x ^^^ 63))) h) : Ev d g g m_P_greaterPoints 0 [.ref a, .int (nI x)] [] h (asI K) := by
  have h6 := w.1.2
  refine w_P_greaterPoints_0 f ⟨vp_in_nI (by omega) (by decide), ?_⟩
  rw [nI_clamp (by omega), o.2 x hx, nm_bit1 x (by omega)]
  have e := nm_dif (up x) (w.u64 hx) (2 ^ x) (Nat.lt_of_lt_of_le (Nat.pow_lt_pow_right (by decide) (by omega : x < 6)) (by decide))
  unfold m1 at e
  rw [e]
  exact hK
end PLEAF

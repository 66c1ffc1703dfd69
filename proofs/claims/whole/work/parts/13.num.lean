/-! numbers: small sets as numbers below 64, their machine words -/
def pop (s : Nat) : Nat := s % 2 + s / 2 % 2 + s / 4 % 2 + s / 8 % 2 + s / 16 % 2 + s / 32 % 2
abbrev m1 : Int32 := cI (.negSucc 0)
theorem nm_and : ∀ a, a < 64 → ∀ b, b < 64 → nI a &&& nI b = nI (a &&& b) := by decide +kernel
theorem nm_or : ∀ a, a < 64 → ∀ b, b < 64 → nI a ||| nI b = nI (a ||| b) := by decide +kernel
theorem nm_dif : ∀ a, a < 64 → ∀ b, b < 64 → nI a &&& (nI b ^^^ m1) = nI (a &&& (b ^^^ 63)) := by decide +kernel
theorem nm_bit1 : ∀ k, k < 7 → nI 1 <<< (nI k &&& 31) = nI (2 ^ k) := by decide +kernel
theorem nm_tb : ∀ s, s < 64 → ∀ k, k < 6 → nI s >>> (nI k &&& 31) &&& nI 1 = nI (if s.testBit k then 1 else 0) := by decide +kernel
theorem nm_shl : ∀ s, s < 64 → ∀ k, k < 7 → nI s <<< (nI k &&& 31) = nI (s * 2 ^ k) := by decide +kernel
theorem nI_inj {a b : Nat} (ha : a < 2 ^ 31) (hb : b < 2 ^ 31) (h : nI a = nI b) : a = b := (nI_eq ha hb).mp h
theorem nI_z {a : Nat} (ha : a < 2 ^ 31) : nI a = 0 ↔ a = 0 := by
  rw [show (0 : Int32) = nI 0 from rfl]
  exact nI_eq ha (by decide)
theorem and64 {a b : Nat} (h : a < 64) : a &&& b < 64 := Nat.lt_of_le_of_lt Nat.and_le_left h
theorem and64r {a b : Nat} (h : b < 64) : a &&& b < 64 := Nat.lt_of_le_of_lt Nat.and_le_right h
theorem or64 {a b : Nat} (h : a < 64) (h2 : b < 64) : a ||| b < 64 := Nat.or_lt_two_pow (n := 6) h h2
theorem p2_le {n : Nat} (h : n ≤ 6) : 2 ^ n ≤ 64 := (Nat.pow_le_pow_right (by decide : 2 > 0) h : 2 ^ n ≤ 2 ^ 6)
theorem p2_pos (n : Nat) : 0 < 2 ^ n := Nat.two_pow_pos n
/-- a set is its members -/
theorem set_ext {a b : Nat} (ha : a < 64) (hb : b < 64) (h : ∀ x, x < 6 → a.testBit x = b.testBit x) : a = b := by
  apply Nat.eq_of_testBit_eq
  intro i
  by_cases hi : i < 6
  · exact h i hi
  · have h6 : 2 ^ 6 ≤ 2 ^ i := Nat.pow_le_pow_right (by decide : 2 > 0) (by omega)
    rw [Nat.testBit_lt_two_pow (Nat.lt_of_lt_of_le ha h6), Nat.testBit_lt_two_pow (Nat.lt_of_lt_of_le hb h6)]
theorem tb_lt {s x n : Nat} (h : s < 2 ^ n) (hx : s.testBit x = true) : x < n := by
  by_cases hn : x < n
  · exact hn
  · have h6 : 2 ^ n ≤ 2 ^ x := Nat.pow_le_pow_right (by decide : 2 > 0) (by omega)
    rw [Nat.testBit_lt_two_pow (Nat.lt_of_lt_of_le h h6)] at hx
    cases hx
theorem pop_and : ∀ a, a < 64 → ∀ b, b < 64 → a &&& b = a → a ≠ b → pop a < pop b := by decide +kernel
theorem pop_le6 : ∀ n, n ≤ 6 → ∀ s, s < 2 ^ n → pop s ≤ n := by
  intro n hn
  have h : ∀ n, n < 7 → ∀ s, s < 2 ^ n → pop s ≤ n := by decide +kernel
  exact h n (by omega)
/-- a counted loop -/
theorem for_up {σ : Type} (W I : Nat → σ → Prop) (N : Nat) (he : ∀ s, I N s → W N s) (hs : ∀ k s, k < N → I k s → (∀ s', I (k + 1) s' → W (k + 1) s') → W k s) : ∀ k s, k ≤ N → I k s → W k s := by
  intro k
  obtain ⟨j, hj⟩ : ∃ j, j = N - k := ⟨_, rfl⟩
  induction j generalizing k with
  | zero =>
    intro s hk hi
    have : k = N := by omega
    subst this
    exact he s hi
  | succ j ih =>
    intro s hk hi
    exact hs k s (by omega) hi fun s' hi' => ih (k + 1) (by omega) s' (by omega) hi'
/-- reads behind writes -/
theorem mi_wi (h : AH) (a i : Nat) (v : Int32) (b j : Nat) : mi (wi h a i v) b j = if b = a ∧ j = i then v else mi h b j := rfl
theorem ml_wi (h : AH) (a i : Nat) (v : Int32) (b j : Nat) : ml (wi h a i v) b j = ml h b j := rfl
theorem mi_wl (h : AH) (a i : Nat) (v : Int64) (b j : Nat) : mi (wl h a i v) b j = mi h b j := rfl
theorem ml_wl (h : AH) (a i : Nat) (v : Int64) (b j : Nat) : ml (wl h a i v) b j = if b = a ∧ j = i then v else ml h b j := rfl
theorem mi_wa (h : AH) (a : Nat) (f : Nat → Int32) (b j : Nat) : mi (wa h a f) b j = if b = a then f j else mi h b j := rfl
theorem mi_ne {h : AH} {a i : Nat} {v : Int32} {b j : Nat} (hb : b ≠ a) : mi (wi h a i v) b j = mi h b j := by rw [mi_wi, if_neg (fun q => hb q.1)]
theorem mi_nj {h : AH} {a i : Nat} {v : Int32} {b j : Nat} (hj : j ≠ i) : mi (wi h a i v) b j = mi h b j := by rw [mi_wi, if_neg (fun q => hj q.2)]
theorem mi_eq {h : AH} {a i : Nat} {v : Int32} : mi (wi h a i v) a i = v := by rw [mi_wi, if_pos ⟨rfl, rfl⟩]
/-- nothing but the cells of a set has changed -/
def same (P : Nat → Prop) (h h1 : AH) : Prop := ∀ a, P a → (∀ i, mi h1 a i = mi h a i) ∧ ∀ i, ml h1 a i = ml h a i
theorem same.rf {P : Nat → Prop} {h : AH} : same P h h := fun _ _ => ⟨fun _ => rfl, fun _ => rfl⟩
theorem same.trans {P : Nat → Prop} {h h1 h2 : AH} (a : same P h h1) (b : same P h1 h2) : same P h h2 := fun x hx => ⟨fun i => ((b x hx).1 i).trans ((a x hx).1 i), fun i => ((b x hx).2 i).trans ((a x hx).2 i)⟩
theorem same.wi {P : Nat → Prop} {h h1 : AH} (a : same P h h1) {x i : Nat} {v : Int32} (hx : ¬ P x) : same P h (wi h1 x i v) := fun y hy => ⟨fun j => by rw [mi_ne (fun (e : y = x) => hx (e ▸ hy))]; exact (a y hy).1 j, fun j => (a y hy).2 j⟩
theorem same.wl {P : Nat → Prop} {h h1 : AH} (a : same P h h1) {x i : Nat} {v : Int64} (hx : ¬ P x) : same P h (wl h1 x i v) := fun y hy => ⟨fun j => (a y hy).1 j, fun j => by rw [ml_wl, if_neg (fun (q : y = x ∧ j = i) => hx (q.1 ▸ hy))]; exact (a y hy).2 j⟩
theorem same.wa {P : Nat → Prop} {h h1 : AH} (a : same P h h1) {x : Nat} {f : Nat → Int32} (hx : ¬ P x) : same P h (wa h1 x f) := fun y hy => ⟨fun j => by rw [mi_wa, if_neg (fun (e : y = x) => hx (e ▸ hy))]; exact (a y hy).1 j, fun j => (a y hy).2 j⟩
theorem same.sub {P P' : Nat → Prop} {h h1 : AH} (a : same P h h1) (hp : ∀ x, P' x → P x) : same P' h h1 := fun x hx => a x (hp x hx)
theorem S_bitCount {d g s : Nat} {h : AH} {K : Int32 → AH → Prop} (hs : s < 64) (hK : K (nI (pop s)) h) : Ev d g g m_I_bitCount 0 [.int (nI s)] [] h (asI K) := by
  refine w_I_bitCount_0 ?_
  refine Eq.mpr (congrArg (fun z => K z h) (?_ : _ = nI (pop s))) hK
  clear hK
  revert s
  decide +kernel

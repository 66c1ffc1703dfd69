/-! generated subalgebras: the mathematics of costs -/
def fb2 : Nat → Nat × Nat
  | 0 => (1, 1)
  | k + 1 => match fb2 k with
    | (a, b) => (b, a + b + 1)
def fbn (k : Nat) : Nat := (fb2 k).1
theorem fb2_s (k : Nat) : fb2 k = (fbn k, fbn (k + 1)) := by
  show fb2 k = ((fb2 k).1, (match fb2 k with | (a, b) => (b, a + b + 1)).1)
  generalize fb2 k = q
  cases q
  rfl
theorem fbn_r (k : Nat) : fbn (k + 2) = fbn k + fbn (k + 1) + 1 := by
  show (match fb2 (k + 1) with | (a, b) => (b, a + b + 1)).1 = _
  rw [fb2_s (k + 1)]
  show fbn (k + 1 + 1) = _
  show (match fb2 (k + 1) with | (a, b) => (b, a + b + 1)).1 = _
  show (match (match fb2 k with | (a, b) => (b, a + b + 1)) with | (a, b) => (b, a + b + 1)).1 = _
  rw [fb2_s k]
theorem fbn_mono (k : Nat) : fbn k ≤ fbn (k + 1) := by
  induction k with
  | zero => decide
  | succ k _ => rw [fbn_r k]; omega
theorem fbn_le : ∀ k, k < 67 → fbn k < 2 ^ 60 := by decide +kernel
theorem fbn_up {a b : Nat} (h : a ≤ b) : fbn a ≤ fbn b := by
  induction b with
  | zero => have : a = 0 := by omega
            subst this; exact Nat.le_refl _
  | succ b ih =>
    by_cases c : a = b + 1
    · subst c; exact Nat.le_refl _
    · exact Nat.le_trans (ih (by omega)) (fbn_mono b)
/-- the number of an operator's result -/
def rsN (n : Nat) (up : Nat → Nat) (op x y : Nat) : Nat := (elems n up).idxOf (opS n up op ((elems n up).getD x 0) ((elems n up).getD y 0))
section GEN
variable {n : Nat} {up : Nat → Nat} {G : List Nat}
theorem rs_lt (w : wfP n up) {op x y : Nat} (hx : x < (elems n up).length) (hy : y < (elems n up).length) : rsN n up op x y < (elems n up).length := idx_lt (opS_mem w (getD_mem hx) (getD_mem hy))
theorem el_top (w : wfP n up) : (elems n up).idxOf (2 ^ n - 1) = (elems n up).length - 1 ∧ 2 ≤ (elems n up).length := by
  have h6 := w.1.2
  have h1 := w.1.1
  have hp := p2_le h6
  have hpp : 2 ^ 1 ≤ 2 ^ n := Nat.pow_le_pow_right (by decide) h1
  have tm := top_mem w
  have tl := idx_lt tm
  have e0 := el_zero w
  have gt := getD_idx tm
  have ne : (elems n up).idxOf (2 ^ n - 1) ≠ 0 := fun z => by
    rw [z, e0.1] at gt
    omega
  refine ⟨?_, by omega⟩
  have lm : (elems n up).length - 1 < (elems n up).length := by omega
  apply Classical.byContradiction
  intro hne
  have lt : (elems n up).idxOf (2 ^ n - 1) < (elems n up).length - 1 := by omega
  have q := el_pop h6 lt lm
  rw [gt] at q
  have ml := (mem_elems h6).mp (getD_mem lm)
  have sub : (elems n up).getD ((elems n up).length - 1) 0 &&& (2 ^ n - 1) = (elems n up).getD ((elems n up).length - 1) 0 := by
    apply Nat.eq_of_testBit_eq
    intro z
    rw [Nat.testBit_and, Nat.testBit_two_pow_sub_one]
    cases hb : ((elems n up).getD ((elems n up).length - 1) 0).testBit z
    · rfl
    · rw [decide_eq_true (tb_lt ml.1 hb)]; rfl
  have hne2 : (elems n up).getD ((elems n up).length - 1) 0 ≠ 2 ^ n - 1 := fun z => by
    have := el_inj h6 lm tl (by rw [gt]; exact z)
    omega
  have := pop_and _ (Nat.lt_of_lt_of_le ml.1 hp) (2 ^ n - 1) (by omega) sub hne2
  omega
theorem rs_self (w : wfP n up) {op x : Nat} (ho : op < 3) (hx : x < (elems n up).length) : rsN n up op x x = x ∨ rsN n up op x x = (elems n up).length - 1 := by
  have h6 := w.1.2
  have mx := getD_mem hx
  have back : (elems n up).idxOf ((elems n up).getD x 0) = x := el_inj h6 (idx_lt mx) hx (getD_idx mx)
  unfold rsN
  match op, ho with
  | 0, _ => left; show (elems n up).idxOf (_ &&& _) = x; rw [Nat.and_self]; exact back
  | 1, _ => left; show (elems n up).idxOf (_ ||| _) = x; rw [Nat.or_self]; exact back
  | 2, _ =>
    right
    rw [← (el_top w).1]
    refine congrArg (elems n up).idxOf ?_
    show impk up _ _ n = 2 ^ n - 1
    apply Nat.eq_of_testBit_eq
    intro z
    rw [Nat.testBit_two_pow_sub_one]
    by_cases c : z < n
    · rw [decide_eq_true c]
      exact (imp_iff w c).mpr fun y _ _ q => q
    · rw [decide_eq_false c]
      cases hb : (impk up ((elems n up).getD x 0) ((elems n up).getD x 0) n).testBit z
      · rfl
      · exact absurd (tb_lt (impk_lt up _ _ n) hb) c
theorem rs_comm {op x y : Nat} (ho : op < 2) : rsN n up op x y = rsN n up op y x := by
  unfold rsN
  match op, ho with
  | 0, _ => show (elems n up).idxOf (_ &&& _) = (elems n up).idxOf (_ &&& _); rw [Nat.and_comm]
  | 1, _ => show (elems n up).idxOf (_ ||| _) = (elems n up).idxOf (_ ||| _); rw [Nat.or_comm]
def bas (n : Nat) (up : Nat → Nat) (G : List Nat) (e : Nat) : Prop := e = 0 ∨ e = (elems n up).length - 1 ∨ e ∈ G
/-- all that holds of costs on the way -/
def INV (n : Nat) (up : Nat → Nat) (G : List Nat) (c : Nat → Nat) : Prop :=
  (∀ e, e < (elems n up).length → bas n up G e → c e = 1) ∧
  (∀ e, e < (elems n up).length → c e ≤ fbn (ck (fun e => decide (0 < c e)) (elems n up).length)) ∧
  (∀ x y, x < (elems n up).length → y < (elems n up).length → x ≠ y → 0 < c x → 0 < c y → 1 + c x + c y ≤ fbn (ck (fun e => decide (0 < c e)) (elems n up).length + 1)) ∧
  (∀ e, e < (elems n up).length → 0 < c e → bas n up G e ∨ ∃ op x y, op < 3 ∧ x < (elems n up).length ∧ y < (elems n up).length ∧ 0 < c x ∧ 0 < c y ∧ rsN n up op x y = e ∧ 1 + c x + c y ≤ c e)
def upd1 (c : Nat → Nat) (e v u : Nat) : Nat := if u = e then v else c u
theorem upd1_e {c : Nat → Nat} {e v : Nat} : upd1 c e v e = v := if_pos rfl
theorem upd1_n {c : Nat → Nat} {e v u : Nat} (h : u ≠ e) : upd1 c e v u = c u := if_neg h
theorem ck_upd {P Q : Nat → Bool} {e : Nat} (hp : P e = false) (hq : Q e = true) (h : ∀ u, u ≠ e → Q u = P u) : ∀ N, e < N → ck Q N = ck P N + 1
  | 0, he => by omega
  | N + 1, he => by
    show ck Q N + (bif Q N then 1 else 0) = ck P N + (bif P N then 1 else 0) + 1
    by_cases c : e = N
    · subst c
      rw [hp, hq, ck_congr e fun u hu => h u (by omega)]
      rfl
    · rw [ck_upd hp hq h N (by omega), h N fun z => c z.symm]
      omega
theorem INV.lt {c : Nat → Nat} (I : INV n up G c) (h64 : (elems n up).length ≤ 64) : ∀ e, e < (elems n up).length → c e < 2 ^ 60 := fun e he => by
  have k := ck_le (fun e => decide (0 < c e)) (elems n up).length
  exact Nat.lt_of_le_of_lt (I.2.1 e he) (fbn_le _ (by omega))
theorem INV.upd {c : Nat → Nat} (w : wfP n up) (I : INV n up G c) {op x y : Nat} (ho : op < 3) (hx : x < (elems n up).length) (hy : y < (elems n up).length) (px : 0 < c x) (py : 0 < c y) (hc : c (rsN n up op x y) = 0 ∨ 1 + c x + c y < c (rsN n up op x y)) : INV n up G (upd1 c (rsN n up op x y) (1 + c x + c y)) := by
  have he := rs_lt w (op := op) hx hy
  obtain ⟨i1, i2, i3, i4⟩ := I
  have hxy : x ≠ y := fun z => by
    subst z
    rcases rs_self w ho hx with q | q
    · rw [q] at hc; omega
    · have := i1 _ he (Or.inr (Or.inl q))
      omega
  have hnx : x ≠ rsN n up op x y := fun z => by rw [← z] at hc; omega
  have hny : y ≠ rsN n up op x y := fun z => by rw [← z] at hc; omega
  have hxy3 := i3 x y hx hy hxy px py
  generalize hr : rsN n up op x y = e at *
  have nb : ¬ bas n up G e := fun z => by have := i1 e he z; omega
  -- the costs never rise, the found stay found
  have le1 : ∀ u, 0 < c u → upd1 c e (1 + c x + c y) u ≤ c u := fun u hu => by
    by_cases q : u = e
    · subst q; rw [upd1_e]; omega
    · rw [upd1_n q]; exact Nat.le_refl _
  have po1 : ∀ u, 0 < c u → 0 < upd1 c e (1 + c x + c y) u := fun u hu => by
    by_cases q : u = e
    · subst q; rw [upd1_e]; omega
    · rw [upd1_n q]; exact hu
  have j1 : ∀ u, u < (elems n up).length → bas n up G u → upd1 c e (1 + c x + c y) u = 1 := fun u hu hb => by
    have hne : u ≠ e := fun z => nb (z ▸ hb)
    rw [upd1_n hne]
    exact i1 u hu hb
  have j4 : ∀ u, u < (elems n up).length → 0 < upd1 c e (1 + c x + c y) u → bas n up G u ∨ ∃ op x' y', op < 3 ∧ x' < (elems n up).length ∧ y' < (elems n up).length ∧ 0 < upd1 c e (1 + c x + c y) x' ∧ 0 < upd1 c e (1 + c x + c y) y' ∧ rsN n up op x' y' = u ∧ 1 + upd1 c e (1 + c x + c y) x' + upd1 c e (1 + c x + c y) y' ≤ upd1 c e (1 + c x + c y) u := fun u hu hp => by
    by_cases q : u = e
    · subst q
      refine Or.inr ⟨op, x, y, ho, hx, hy, ?_, ?_, hr, ?_⟩
      · rw [upd1_n hnx]; exact px
      · rw [upd1_n hny]; exact py
      · rw [upd1_n hnx, upd1_n hny, upd1_e]; exact Nat.le_refl _
    · rw [upd1_n q] at hp ⊢
      rcases i4 u hu hp with z | ⟨o, x', y', a1, a2, a3, a4, a5, a6, a7⟩
      · exact Or.inl z
      · refine Or.inr ⟨o, x', y', a1, a2, a3, po1 x' a4, po1 y' a5, a6, ?_⟩
        have b1 := le1 x' a4
        have b2 := le1 y' a5
        omega
  refine ⟨j1, ?_, ?_, j4⟩
  · intro u hu
    by_cases z0 : c e = 0
    · have kk : ck (fun u => decide (0 < upd1 c e (1 + c x + c y) u)) (elems n up).length = ck (fun u => decide (0 < c u)) (elems n up).length + 1 := ck_upd (e := e) (decide_eq_false (by omega)) (decide_eq_true (by rw [upd1_e]; omega)) (fun u hu => by rw [upd1_n hu]) _ he
      rw [kk]
      by_cases q : u = e
      · subst q; rw [upd1_e]; exact hxy3
      · rw [upd1_n q]
        exact Nat.le_trans (i2 u hu) (fbn_mono _)
    · have kk : ck (fun u => decide (0 < upd1 c e (1 + c x + c y) u)) (elems n up).length = ck (fun u => decide (0 < c u)) (elems n up).length := ck_congr _ fun u _ => by
        by_cases q : u = e
        · subst q; rw [upd1_e, decide_eq_true (by omega), decide_eq_true (by omega)]
        · rw [upd1_n q]
      rw [kk]
      by_cases q : u = e
      · subst q
        have := i2 u hu
        rw [upd1_e]; omega
      · rw [upd1_n q]; exact i2 u hu
  · intro u v hu hv huv pu pv
    by_cases z0 : c e = 0
    · have kk : ck (fun u => decide (0 < upd1 c e (1 + c x + c y) u)) (elems n up).length = ck (fun u => decide (0 < c u)) (elems n up).length + 1 := ck_upd (e := e) (decide_eq_false (by omega)) (decide_eq_true (by rw [upd1_e]; omega)) (fun u hu => by rw [upd1_n hu]) _ he
      rw [kk, fbn_r]
      by_cases q : u = e
      · subst q
        rw [upd1_e, upd1_n fun z => huv z.symm]
        have := i2 v hv
        omega
      · by_cases q2 : v = e
        · subst q2
          rw [upd1_e, upd1_n q]
          have := i2 u hu
          omega
        · rw [upd1_n q] at pu ⊢
          rw [upd1_n q2] at pv ⊢
          have := i3 u v hu hv huv pu pv
          omega
    · have kk : ck (fun u => decide (0 < upd1 c e (1 + c x + c y) u)) (elems n up).length = ck (fun u => decide (0 < c u)) (elems n up).length := ck_congr _ fun u _ => by
        by_cases q : u = e
        · subst q; rw [upd1_e, decide_eq_true (by omega), decide_eq_true (by omega)]
        · rw [upd1_n q]
      have up1 : ∀ u, 0 < upd1 c e (1 + c x + c y) u → 0 < c u := fun u hu => by
        by_cases q : u = e
        · subst q; omega
        · rw [upd1_n q] at hu; exact hu
      have b1 := le1 u (up1 u pu)
      have b2 := le1 v (up1 v pv)
      have := i3 u v hu hv huv (up1 u pu) (up1 v pv)
      rw [kk]
      omega
/-- the finished costs -/
def clo (n : Nat) (up : Nat → Nat) (c : Nat → Nat) (op x y : Nat) : Prop := 0 < c x → 0 < c y → 0 < c (rsN n up op x y) ∧ c (rsN n up op x y) ≤ 1 + c x + c y
def SOL (n : Nat) (up : Nat → Nat) (G : List Nat) (c : Nat → Nat) : Prop := INV n up G c ∧ ∀ op x y, op < 3 → x < (elems n up).length → y < (elems n up).length → clo n up c op x y
theorem SOL.le {c c2 : Nat → Nat} (w : wfP n up) (A : SOL n up G c) (B : SOL n up G c2) : ∀ m e, e < (elems n up).length → c e = m → 0 < c e → 0 < c2 e ∧ c2 e ≤ c e := by
  intro m
  induction m using Nat.strongRecOn with
  | _ m ih =>
    intro e he hm hp
    rcases A.1.2.2.2 e he hp with z | ⟨o, x, y, a1, a2, a3, a4, a5, a6, a7⟩
    · have := B.1.1 e he z
      omega
    · have b1 := ih (c x) (by omega) x a2 rfl a4
      have b2 := ih (c y) (by omega) y a3 rfl a5
      have b3 := B.2 o x y a1 a2 a3 b1.1 b2.1
      rw [a6] at b3
      omega
theorem SOL.eq {c c2 : Nat → Nat} (w : wfP n up) (A : SOL n up G c) (B : SOL n up G c2) {e : Nat} (he : e < (elems n up).length) : c e = c2 e := by
  by_cases h1 : 0 < c e
  · have q := SOL.le w A B _ e he rfl h1
    have q2 := SOL.le w B A _ e he rfl q.1
    omega
  · by_cases h2 : 0 < c2 e
    · have q := SOL.le w B A _ e he rfl h2
      omega
    · omega
theorem INV.congr {c c2 : Nat → Nat} (w : wfP n up) (h : ∀ e, e < (elems n up).length → c e = c2 e) (I : INV n up G c) : INV n up G c2 := by
  have kk : ck (fun e => decide (0 < c e)) (elems n up).length = ck (fun e => decide (0 < c2 e)) (elems n up).length := ck_congr _ fun u hu => by rw [h u hu]
  refine ⟨fun e he hb => by rw [← h e he]; exact I.1 e he hb, fun e he => by rw [← h e he, ← kk]; exact I.2.1 e he, fun x y hx hy hxy px py => ?_, fun e he hp => ?_⟩
  · rw [← h x hx] at px ⊢
    rw [← h y hy] at py ⊢
    rw [← kk]
    exact I.2.2.1 x y hx hy hxy px py
  · rw [← h e he] at hp ⊢
    rcases I.2.2.2 e he hp with z | ⟨o, x, y, a1, a2, a3, a4, a5, a6, a7⟩
    · exact Or.inl z
    · refine Or.inr ⟨o, x, y, a1, a2, a3, ?_, ?_, a6, ?_⟩
      · rw [← h x a2]; exact a4
      · rw [← h y a3]; exact a5
      · rw [← h x a2, ← h y a3]; exact a7
theorem SOL.congr {c c2 : Nat → Nat} (w : wfP n up) (h : ∀ e, e < (elems n up).length → c e = c2 e) (A : SOL n up G c) : SOL n up G c2 := by
  refine ⟨A.1.congr w h, fun op x y ho hx hy px py => ?_⟩
  rw [← h x hx] at px ⊢
  rw [← h y hy] at py ⊢
  rw [← h _ (rs_lt w hx hy)]
  exact A.2 op x y ho hx hy px py
/-- the start -/
def c00 (n : Nat) (up : Nat → Nat) (G : List Nat) (e : Nat) : Nat := if e = 0 ∨ e = (elems n up).length - 1 ∨ e ∈ G then 1 else 0
theorem c00_b {e : Nat} (h : bas n up G e) : c00 n up G e = 1 := if_pos h
theorem c00_n {e : Nat} (h : ¬ bas n up G e) : c00 n up G e = 0 := if_neg h
theorem c00_INV (w : wfP n up) : INV n up G (c00 n up G) := by
  have t := el_top w
  have k2 : 2 ≤ ck (fun e => decide (0 < c00 n up G e)) (elems n up).length := by
    have hm : ∀ m, ck (fun e => decide (0 < c00 n up G e)) 1 ≤ ck (fun e => decide (0 < c00 n up G e)) (1 + m) := fun m => ck_mono m
    have q1 : ck (fun e => decide (0 < c00 n up G e)) 1 = 1 := by
      show 0 + (bif decide (0 < c00 n up G 0) then 1 else 0) = 1
      rw [c00_b (Or.inl rfl)]
      rfl
    have e1 : (elems n up).length = (elems n up).length - 1 + 1 := by omega
    rw [e1]
    show 2 ≤ ck (fun e => decide (0 < c00 n up G e)) ((elems n up).length - 1) + (bif decide (0 < c00 n up G ((elems n up).length - 1)) then 1 else 0)
    rw [c00_b (Or.inr (Or.inl rfl))]
    have q2 := hm ((elems n up).length - 1 - 1)
    rw [show 1 + ((elems n up).length - 1 - 1) = (elems n up).length - 1 by omega] at q2
    show 2 ≤ ck (fun e => decide (0 < c00 n up G e)) ((elems n up).length - 1) + 1
    omega
  have le1 : ∀ e, c00 n up G e ≤ 1 := fun e => by unfold c00; split <;> omega
  have f3 : (3 : Nat) ≤ fbn 2 := by decide
  have f4 := fbn_up k2
  refine ⟨fun e he hb => c00_b hb, fun e he => ?_, fun x y hx hy hxy px py => ?_, fun e he hp => ?_⟩
  · have := le1 e; omega
  · have a1 := le1 x
    have a2 := le1 y
    have a3 := fbn_mono (ck (fun e => decide (0 < c00 n up G e)) (elems n up).length)
    omega
  · by_cases hb : bas n up G e
    · exact Or.inl hb
    · rw [c00_n hb] at hp; omega
end GEN

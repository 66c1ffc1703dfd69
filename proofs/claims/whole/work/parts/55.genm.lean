/-! generate: longs, the order of the steps, the reference's lowering -/
theorem cL_N {n : Nat} : cL (.ofNat n) = lN n := rfl
theorem lgN_eq {a b : Nat} (ha : a < 2 ^ 63) (hb : b < 2 ^ 63) : lg_cmp (lN a) (lN b) = 0 ↔ a = b := by
  have h1 := lgc_lt (lN a) (lN b)
  have h2 := lgc_gt (lN a) (lN b)
  rw [pk_lT ha, pk_lT hb] at h1 h2
  constructor
  · intro z
    rw [z] at h1 h2
    have a1 : ¬ (a : Int) < b := fun q => absurd (h1.mpr q) (by decide)
    have a2 : ¬ (b : Int) < a := fun q => absurd (h2.mpr q) (by decide)
    omega
  · intro z
    subst z
    have a1 : ¬ lg_cmp (lN a) (lN a) < 0 := fun q => by have := h1.mp q; omega
    have a2 : ¬ 0 < lg_cmp (lN a) (lN a) := fun q => by have := h2.mp q; omega
    rw [Int32.lt_iff_toInt_lt] at a1 a2
    apply Int32.toInt_inj.mp
    have z0 : (0 : Int32).toInt = 0 := by decide
    rw [z0] at a1 a2 ⊢
    omega
theorem lgN_le {a b : Nat} (ha : a < 2 ^ 63) (hb : b < 2 ^ 63) : lg_cmp (lN a) (lN b) ≤ 0 ↔ a ≤ b := by
  rw [lgc_le, lgc_gt, pk_lT ha, pk_lT hb]
  omega
theorem lgN_lt {a b : Nat} (ha : a < 2 ^ 63) (hb : b < 2 ^ 63) : 0 < lg_cmp (lN a) (lN b) ↔ b < a := by
  rw [lgc_gt, pk_lT ha, pk_lT hb]
  omega
theorem lgN_ge {a b : Nat} (ha : a < 2 ^ 63) (hb : b < 2 ^ 63) : 0 ≤ lg_cmp (lN a) (lN b) ↔ b ≤ a := by
  have h1 := lgc_lt (lN a) (lN b)
  rw [pk_lT ha, pk_lT hb] at h1
  have e : (0 : Int32) ≤ lg_cmp (lN a) (lN b) ↔ ¬ lg_cmp (lN a) (lN b) < 0 := by rw [Int32.le_iff_toInt_le, Int32.lt_iff_toInt_lt]; omega
  rw [e, h1]
  omega
/-- two ways by a comparison of longs -/
theorem bl_eq {a b : Nat} {A B : Prop} (ha : a < 2 ^ 63) (hb : b < 2 ^ 63) (f : a = b → A) (g : a ≠ b → B) : (lg_cmp (lN a) (lN b) = 0 → A) ∧ (¬ lg_cmp (lN a) (lN b) = 0 → B) := ⟨fun z => f ((lgN_eq ha hb).mp z), fun z => g fun q => z ((lgN_eq ha hb).mpr q)⟩
theorem bl_le {a b : Nat} {A B : Prop} (ha : a < 2 ^ 63) (hb : b < 2 ^ 63) (f : a ≤ b → A) (g : b < a → B) : (lg_cmp (lN a) (lN b) ≤ 0 → A) ∧ (¬ lg_cmp (lN a) (lN b) ≤ 0 → B) := ⟨fun z => f ((lgN_le ha hb).mp z), fun z => g (Nat.not_le.mp fun q => z ((lgN_le ha hb).mpr q))⟩
theorem bl_lt {a b : Nat} {A B : Prop} (ha : a < 2 ^ 63) (hb : b < 2 ^ 63) (f : b < a → A) (g : a ≤ b → B) : (0 < lg_cmp (lN a) (lN b) → A) ∧ (¬ 0 < lg_cmp (lN a) (lN b) → B) := ⟨fun z => f ((lgN_lt ha hb).mp z), fun z => g (Nat.not_lt.mp fun q => z ((lgN_lt ha hb).mpr q))⟩
theorem bl_ge {a b : Nat} {A B : Prop} (ha : a < 2 ^ 63) (hb : b < 2 ^ 63) (f : b ≤ a → A) (g : a < b → B) : (0 ≤ lg_cmp (lN a) (lN b) → A) ∧ (¬ 0 ≤ lg_cmp (lN a) (lN b) → B) := ⟨fun z => f ((lgN_ge ha hb).mp z), fun z => g (Nat.not_le.mp fun q => z ((lgN_ge ha hb).mpr q))⟩
def phi (c : Nat → Nat) : Nat → Nat
  | 0 => 0
  | k + 1 => phi c k + (if c k = 0 then 2 ^ 61 else c k)
theorem phi_congr {c c2 : Nat → Nat} : ∀ N, (∀ e, e < N → c e = c2 e) → phi c N = phi c2 N
  | 0, _ => rfl
  | N + 1, h => by unfold phi; rw [phi_congr N fun e he => h e (by omega), h N (by omega)]
theorem phi_upd {c : Nat → Nat} {e v : Nat} (hv : v < 2 ^ 61) (h0 : 0 < v) (h : c e = 0 ∨ v < c e) : ∀ N, e < N → phi (upd1 c e v) N < phi c N
  | 0, he => by omega
  | N + 1, he => by
    unfold phi
    by_cases q : e = N
    · subst q
      have pc : phi (upd1 c e v) e = phi c e := phi_congr e fun u hu => upd1_n (show u ≠ e by omega)
      rw [upd1_e, pc, if_neg (by omega)]
      split <;> omega
    · have := phi_upd hv h0 h N (by omega)
      rw [upd1_n (show N ≠ e by omega)]
      omega
/-! steps, numbered -/
def cN (N v : Nat) : Nat := match v with
  | 0 => 3
  | _ => N
def mtc (n : Nat) (up : Nat → Nat) (c : Nat → Nat) (e t : Nat) : Bool := decide (0 < c (dgt (cN (elems n up).length) t 1)) && decide (0 < c (dgt (cN (elems n up).length) t 2)) && (rsN n up (dgt (cN (elems n up).length) t 0) (dgt (cN (elems n up).length) t 1) (dgt (cN (elems n up).length) t 2) == e) && (c e == 1 + c (dgt (cN (elems n up).length) t 1) + c (dgt (cN (elems n up).length) t 2))
def tT (N : Nat) : Nat := 3 * N * N
def sOp (N k : Nat) : Int32 := if k < tT N then nI (dgt (cN N) k 0) else nI 3
def sLe (N k : Nat) : Int32 := if k < tT N then nI (dgt (cN N) k 1) else kNone
def sRi (N k : Nat) : Int32 := if k < tT N then nI (dgt (cN N) k 2) else kNone
theorem ffn_flat {P : Nat → Bool} {T t : Nat} : ∀ m, t + m ≤ T → (∀ k, t ≤ k → k < t + m → P k = false) → ffn P (T - t) t = ffn P (T - (t + m)) (t + m)
  | 0, _, _ => rfl
  | m + 1, hT, h => by
    rw [ffn_flat m (by omega) fun k h1 h2 => h k h1 (by omega), show T - (t + m) = T - (t + (m + 1)) + 1 by omega]
    show (bif P (t + m) then t + m else ffn P (T - (t + (m + 1))) (t + m + 1)) = _
    rw [h (t + m) (by omega) (by omega)]
    rfl
section STEP
variable {n op x y : Nat} {up c : Nat → Nat}
theorem tx_lt (ho : op < 3) (hx : x < (elems n up).length) (hy : y < (elems n up).length) : (op * (elems n up).length + x) * (elems n up).length + y < tT (elems n up).length := by
  have := ixx_lt (c := cN (elems n up).length) (p := op) (q := x) (r := y) ho hx hy
  rw [prd3] at this
  exact this
theorem tx0 (ho : op < 3) (hx : x < (elems n up).length) (hy : y < (elems n up).length) : dgt (cN (elems n up).length) ((op * (elems n up).length + x) * (elems n up).length + y) 0 = op := dg0 (c := cN (elems n up).length) ho hx hy
theorem tx1 (hx : x < (elems n up).length) (hy : y < (elems n up).length) : dgt (cN (elems n up).length) ((op * (elems n up).length + x) * (elems n up).length + y) 1 = x := dg1 (c := cN (elems n up).length) hx hy
theorem tx2 (hy : y < (elems n up).length) : dgt (cN (elems n up).length) ((op * (elems n up).length + x) * (elems n up).length + y) 2 = y := dg2 (c := cN (elems n up).length) hy
theorem mtc_eq {e : Nat} (ho : op < 3) (hx : x < (elems n up).length) (hy : y < (elems n up).length) : mtc n up c e ((op * (elems n up).length + x) * (elems n up).length + y) = (decide (0 < c x) && decide (0 < c y) && (rsN n up op x y == e) && (c e == 1 + c x + c y)) := by
  unfold mtc
  rw [tx0 ho hx hy, tx1 hx hy, tx2 hy]
theorem stp_eq (ho : op < 3) (hx : x < (elems n up).length) (hy : y < (elems n up).length) : sOp (elems n up).length ((op * (elems n up).length + x) * (elems n up).length + y) = nI op ∧ sLe (elems n up).length ((op * (elems n up).length + x) * (elems n up).length + y) = nI x ∧ sRi (elems n up).length ((op * (elems n up).length + x) * (elems n up).length + y) = nI y := by
  have h := tx_lt ho hx hy
  unfold sOp sLe sRi
  rw [if_pos h, if_pos h, if_pos h, tx0 ho hx hy, tx1 hx hy, tx2 hy]
  exact ⟨rfl, rfl, rfl⟩
end STEP
section GENM
variable {d g i n : Nat} {up c c0 : Nat → Nat} {G : List Nat} {h : AH} {K : Int32 → AH → Prop}
/-- what the reference's searches need of the heap -/
def GMH (h : AH) (i n : Nat) (up : Nat → Nat) : Prop := is_M h ∧ MO h i n up ∧ ELp (mi h M_elements) (mi h M_numberOf) (mi h A_M 5) (elems n up)
theorem GMH.keep {h1 : AH} (A : GMH h i n up) (e : Ext h h1) (s : sm (fun q z => ¬ (q = 73 ∧ z = 26) ∧ ¬ (87 ≤ q ∧ q ≤ 90)) h h1) : GMH h1 i n up := by
  obtain ⟨a1, a2, a3⟩ := A
  have p : ∀ q z, q < 87 → ¬ (q = 73 ∧ z = 26) → ¬ (q = 73 ∧ z = 26) ∧ ¬ (87 ≤ q ∧ q ≤ 90) := fun q z h1 h2 => ⟨h2, by omega⟩
  exact ⟨a1.ext e, a2.keep s (p _ _ (by decide) (fun q => absurd q.1 (by decide))) fun x _ => p _ _ (by decide) (fun q => absurd q.1 (by decide)), ⟨(s _ _ (p _ _ (by decide) (fun q => absurd q.2 (by decide)))).1.trans a3.1, fun k hk => (s _ _ (p _ _ (by decide) (fun q => absurd q.1 (by decide)))).1.trans (a3.2.1 k hk), fun k hk => (s _ _ (p _ _ (by decide) (fun q => absurd q.1 (by decide)))).1.trans (a3.2.2 k hk)⟩⟩
theorem S_Mdone {op x y : Nat} (A : GMH h i n up) (hi : i < 5) (w : wfP n up) (ho : op < 3) (hx : x < (elems n up).length) (hy : y < (elems n up).length) (hK : K (nI (rsN n up op x y)) h) : Ev (d + 1) g g m_M_done 0 [.ref A_M, .int (nI i), .int (nI op), .int (nI x), .int (nI y)] [] h (asI K) := by
  obtain ⟨fM, o, el⟩ := A
  have h6 := w.1.2
  have hl := elems_len (up := up) h6
  have mx := getD_mem hx
  have my := getD_mem hy
  have lx := el64 h6 mx
  have ly := el64 h6 my
  have mo := opS_mem w (op := op) mx my
  have lo := el64 h6 mo
  refine w_M_done_0 fM ?_
  rw [nI_clamp (n := x) (by omega), nI_clamp (n := y) (by omega), el.2.1 x hx, el.2.1 y hy]
  refine ⟨vp_in_nI (by omega) (by decide), vp_in_nI (by omega) (by decide), br_ne op 0 rfl rfl (fun z => ?_) (fun z => br_ne op 1 rfl rfl (fun z1 => ?_) (fun z1 => ?_))⟩
  · subst z
    have mo : (elems n up).getD x 0 &&& (elems n up).getD y 0 ∈ elems n up := mo
    rw [nm_and _ lx _ ly, nI_clamp (by have := el64 h6 mo; omega), el.2.2 _ mo]
    exact ⟨vp_in_nI (el64 h6 mo) (by decide), hK⟩
  · subst z1
    have mo : (elems n up).getD x 0 ||| (elems n up).getD y 0 ∈ elems n up := mo
    rw [nm_or _ lx _ ly, nI_clamp (by have := el64 h6 mo; omega), el.2.2 _ mo]
    exact ⟨vp_in_nI (el64 h6 mo) (by decide), hK⟩
  · have h2 : op = 2 := by omega
    subst h2
    have mo : impk up ((elems n up).getD x 0) ((elems n up).getD y 0) n ∈ elems n up := mo
    refine S_MimpliedBits fM hi o w lx ly fun _ => ?_
    rw [nI_clamp (by have := el64 h6 mo; omega), el.2.2 _ mo]
    exact ⟨vp_in_nI (el64 h6 mo) (by decide), hK⟩
theorem S_Mlowers (A0 : GMH h i n up) (hi : i < 5) (w : wfP n up) (hc0 : ∀ e, e < (elems n up).length → ml h M_cost e = lN (c0 e)) (J0 : INV n up G c0) (K1 : (∀ op x y, op < 3 → x < (elems n up).length → y < (elems n up).length → clo n up c0 op x y) → ∀ h1, Ext h h1 → sm (fun q _ => q ≠ 90) h h1 → (∀ e, e < (elems n up).length → ml h1 M_cost e = lN (c0 e)) → K (nI 0) h1) (K2 : ∀ c h1, Ext h h1 → sm (fun q _ => q ≠ 90) h h1 → (∀ e, e < (elems n up).length → ml h1 M_cost e = lN (c e)) → INV n up G c → phi c (elems n up).length < phi c0 (elems n up).length → K (nI 1) h1) : Ev (d + 2) g g m_M_lowers 0 [.ref A_M, .int (nI i)] [] h (asI K) := by
  have h6 := w.1.2
  have hl := elems_len (up := up) h6
  refine w_M_lowers_0 A0.1 ?_
  -- the state: whether any became less, the costs, the heap
  let X : Bool × (Nat → Nat) × AH → Prop := fun s => Ext h s.2.2 ∧ sm (fun q _ => q ≠ 90) h s.2.2 ∧ (∀ e, e < (elems n up).length → ml s.2.2 M_cost e = lN (s.2.1 e)) ∧ INV n up G s.2.1 ∧ (s.1 = false → s.2.1 = c0) ∧ (s.1 = true → phi s.2.1 (elems n up).length < phi c0 (elems n up).length)
  have kA : ∀ {s}, X s → GMH s.2.2 i n up := fun xs => A0.keep xs.1 (xs.2.1.sub fun q z hq => by omega)
  refine for_up (σ := Bool × (Nat → Nat) × AH) (fun op s => Ev (d + 2) g g m_M_lowers 4 [.ref A_M, .int (nI i), .int (bI s.1), .int (nI op)] [] s.2.2 (asI K)) (fun op s => X s ∧ (s.1 = false → ∀ op' x y, op' < op → x < (elems n up).length → y < (elems n up).length → clo n up c0 op' x y)) 3 (fun s hI => ?_) (fun op s hop hI ih => ?_) 0 (false, c0, h) (Nat.zero_le _) ⟨⟨Ext.rfl', sm.rf, hc0, J0, fun _ => rfl, fun z => by cases z⟩, fun _ op' x y z => by omega⟩
  · obtain ⟨⟨ee, sa, hc, J, f0, f1⟩, cl⟩ := hI
    refine w_M_lowers_4 (A0.1.ext ee) (br_le 3 3 rfl rfl (fun _ => ?_) (fun z => by omega))
    obtain ⟨any, c, hh⟩ := s
    cases any with
    | false =>
      have e1 : c = c0 := f0 rfl
      subst e1
      exact ⟨by show isB (bI false) = true; decide, K1 (cl rfl) hh ee sa hc⟩
    | true => exact ⟨by show isB (bI true) = true; decide, K2 c hh ee sa hc J (f1 rfl)⟩
  refine w_M_lowers_4 (A0.1.ext hI.1.1) (br_le 3 op rfl rfl (fun z => by omega) (fun _ => ?_))
  refine for_up (σ := Bool × (Nat → Nat) × AH) (fun x s => Ev (d + 2) g g m_M_lowers 12 [.ref A_M, .int (nI i), .int (bI s.1), .int (nI op), .int (nI x)] [] s.2.2 (asI K)) (fun x s => X s ∧ (s.1 = false → (∀ op' x y, op' < op → x < (elems n up).length → y < (elems n up).length → clo n up c0 op' x y) ∧ ∀ x' y, x' < x → y < (elems n up).length → clo n up c0 op x' y)) (elems n up).length (fun s hI => ?_) (fun x s hx hI ih2 => ?_) 0 s (Nat.zero_le _) ⟨hI.1, fun z => ⟨hI.2 z, fun x' y q => by omega⟩⟩
  · refine w_M_lowers_12 (A0.1.ext hI.1.1) ?_
    rw [(kA hI.1).2.2.1]
    refine br_le _ _ rfl rfl (fun _ => ?_) (fun z => by omega)
    rw [nI_add]
    refine ih s ⟨hI.1, fun z op' x y h1 h2 h3 => ?_⟩
    by_cases q : op' = op
    · subst q; exact (hI.2 z).2 x y h2 h3
    · exact (hI.2 z).1 op' x y (by omega) h2 h3
  refine w_M_lowers_12 (A0.1.ext hI.1.1) ?_
  rw [(kA hI.1).2.2.1]
  refine br_le _ x rfl rfl (fun z => by omega) (fun _ => ?_)
  refine for_up (σ := Bool × (Nat → Nat) × AH) (fun y s => Ev (d + 2) g g m_M_lowers 24 [.ref A_M, .int (nI i), .int (bI s.1), .int (nI op), .int (nI x), .int (nI y)] [] s.2.2 (asI K)) (fun y s => X s ∧ (s.1 = false → (∀ op' x y, op' < op → x < (elems n up).length → y < (elems n up).length → clo n up c0 op' x y) ∧ (∀ x' y, x' < x → y < (elems n up).length → clo n up c0 op x' y) ∧ ∀ y', y' < y → clo n up c0 op x y')) (elems n up).length (fun s hI => ?_) (fun y s hy hI ih3 => ?_) 0 s (Nat.zero_le _) ⟨hI.1, fun z => ⟨(hI.2 z).1, (hI.2 z).2, fun y' q => by omega⟩⟩
  · refine w_M_lowers_24 (A0.1.ext hI.1.1) ?_
    rw [(kA hI.1).2.2.1]
    refine br_le _ _ rfl rfl (fun _ => ?_) (fun z => by omega)
    rw [nI_add]
    refine ih2 s ⟨hI.1, fun z => ⟨(hI.2 z).1, fun x' y h2 h3 => ?_⟩⟩
    by_cases q : x' = x
    · subst q; exact (hI.2 z).2.2 y h3
    · exact (hI.2 z).2.1 x' y (by omega) h3
  obtain ⟨any, c, hh⟩ := s
  obtain ⟨Xs, cl⟩ := hI
  have As := kA Xs
  obtain ⟨ee, sa, hc, J, f0, f1⟩ := Xs
  have As : GMH hh i n up := As
  have ee : Ext h hh := ee
  have sa : sm (fun q _ => q ≠ 90) h hh := sa
  have hc : ∀ e, e < (elems n up).length → ml hh M_cost e = lN (c e) := hc
  have J : INV n up G c := J
  have f0 : any = false → c = c0 := f0
  have f1 : any = true → phi c (elems n up).length < phi c0 (elems n up).length := f1
  have cb := J.lt hl
  have cx := cb x hx
  have cy := cb y hy
  have he := rs_lt w (op := op) hx hy
  have ce := cb _ he
  have skip : clo n up c op x y → Ev (d + 2) g g m_M_lowers 24 [.ref A_M, .int (nI i), .int (bI any), .int (nI op), .int (nI x), .int (nI y + nI 1)] [] hh (asI K) := fun q => by
    rw [nI_add]
    refine ih3 (any, c, hh) ⟨⟨ee, sa, hc, J, f0, f1⟩, fun z => ⟨(cl z).1, (cl z).2.1, fun y' hy' => ?_⟩⟩
    have e1 : c = c0 := f0 z
    by_cases q2 : y' = y
    · subst q2; rw [← e1]; exact q
    · exact (cl z).2.2 y' (by omega)
  refine w_M_lowers_24 (A0.1.ext ee) ?_
  rw [As.2.2.1, nI_clamp (n := x) (by omega), nI_clamp (n := y) (by omega), hc x hx, hc y hy, cL_N]
  refine br_le _ y rfl rfl (fun z => by omega) (fun _ => ⟨vp_in_nI (by omega) (by decide), bl_le (by omega) (by decide) (fun z => ?_) (fun px => ⟨vp_in_nI (by omega) (by decide), ?_⟩)⟩)
  · -- x isn't found: on with the next x
    rw [nI_add]
    refine ih2 (any, c, hh) ⟨⟨ee, sa, hc, J, f0, f1⟩, fun z2 => ⟨(cl z2).1, fun x' y' h2 h3 => ?_⟩⟩
    by_cases q : x' = x
    · subst q
      have e1 : c = c0 := f0 z2
      intro p1
      rw [← e1] at p1
      omega
    · exact (cl z2).2.1 x' y' (by omega) h3
  refine (bl_eq (by omega) (by decide) (fun z => skip fun _ p2 => by omega) (fun z => ?_)).symm
  have py : 0 < c y := by omega
  refine S_Mdone As hi w hop hx hy fun _ => ?_
  rw [nI_clamp (n := rsN n up op x y) (by omega), hc _ he, hc x hx, hc y hy, cL_N, lN_add, lN_add]
  have ve : vp_in (nI (rsN n up op x y)) 64 := vp_in_nI (by omega) (by decide)
  have write : (c (rsN n up op x y) = 0 ∨ 1 + c x + c y < c (rsN n up op x y)) → Ev (d + 2) g g m_M_lowers 24 [.ref A_M, .int (nI i), .int (nI 1), .int (nI op), .int (nI x), .int (nI y + nI 1)] [] (wl hh M_cost (rsN n up op x y) (lN (1 + c x + c y))) (asI K) := fun q => by
    rw [nI_add]
    have lt1 : phi (upd1 c (rsN n up op x y) (1 + c x + c y)) (elems n up).length < phi c (elems n up).length := phi_upd (by omega) (by omega) q _ he
    refine ih3 (true, upd1 c (rsN n up op x y) (1 + c x + c y), wl hh M_cost (rsN n up op x y) (lN (1 + c x + c y))) ⟨⟨ee.trans (ext_wl _ _ _ _), sa.wl (fun q => q rfl), fun e h1 => ?_, J.upd w hop hx hy px py q, fun z => (by cases z), fun _ => ?_⟩, fun z => (by cases z)⟩
    · show ml (wl hh M_cost (rsN n up op x y) (lN (1 + c x + c y))) M_cost e = lN (upd1 c (rsN n up op x y) (1 + c x + c y) e)
      rw [ml_wl]
      by_cases q2 : e = rsN n up op x y
      · rw [if_pos ⟨rfl, q2⟩, q2, upd1_e]
      · rw [if_neg (fun z => q2 z.2), upd1_n q2]; exact hc e h1
    · show phi (upd1 c (rsN n up op x y) (1 + c x + c y)) (elems n up).length < phi c0 (elems n up).length
      cases any with
      | false =>
        have e1 : c = c0 := f0 rfl
        subst e1
        exact lt1
      | true => exact Nat.lt_trans lt1 (f1 rfl)
  refine ⟨vp_in_nI (by omega) (by decide), vp_in_nI (by omega) (by decide), ve, bl_le (by omega) (by decide) (fun z => ⟨ve, write (Or.inl (by omega))⟩) (fun pe => ⟨ve, bl_lt (by omega) (by omega) (fun z => ⟨ve, write (Or.inr z)⟩) (fun z => skip fun _ _ => ⟨pe, z⟩)⟩)⟩
end GENM

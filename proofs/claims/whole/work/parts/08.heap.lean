/-! the heap's relation under reads, writes, makings -/
theorem Ext.rfl' {h : AH} : Ext h h := ⟨⟨[], by simp⟩, fun _ _ _ _ e => e⟩
theorem Ext.trans {h h1 h2 : AH} (a : Ext h h1) (b : Ext h1 h2) : Ext h h2 := by
  obtain ⟨⟨l, e⟩, f⟩ := a
  obtain ⟨⟨l2, e2⟩, f2⟩ := b
  refine ⟨⟨l ++ l2, by rw [e2, e, List.append_assoc]⟩, fun a k j ha e3 => f2 a k j ?_ (f a k j ha e3)⟩
  rw [e, List.length_append]
  omega
theorem Ext.shp {h h1 : AH} (x : Ext h h1) {a : Nat} {q : Nat × Nat} (e : hs h a = some q) : hs h1 a = some q := by
  obtain ⟨⟨l, e1⟩, -⟩ := x
  unfold hs at e ⊢
  rw [e1, List.getElem?_append_left (List.getElem?_eq_some_iff.mp e).1]
  exact e
theorem hs_lt {h : AH} {a : Nat} {q : Nat × Nat} (e : hs h a = some q) : a < h.1.length := (List.getElem?_eq_some_iff.mp e).1
theorem Ext.rfs {h h1 : AH} (x : Ext h h1) {a k j : Nat} {q : Nat × Nat} (e : hs h a = some q) (f : mr h a k = some j) : mr h1 a k = some j := x.2 a k j (hs_lt e) f
theorem ext_wi (h : AH) (a i : Nat) (v : Int32) : Ext h (wi h a i v) := ⟨⟨[], by simp [wi]⟩, fun _ _ _ _ e => e⟩
theorem ext_wl (h : AH) (a i : Nat) (v : Int64) : Ext h (wl h a i v) := ⟨⟨[], by simp [wl]⟩, fun _ _ _ _ e => e⟩
theorem ext_wa (h : AH) (a : Nat) (f : Nat → Int32) : Ext h (wa h a f) := ⟨⟨[], by simp [wa]⟩, fun _ _ _ _ e => e⟩
theorem ext_wr {h : AH} {a i : Nat} (v : Nat) (e : mr h a i = none) : Ext h (wr h a i v) := by
  refine ⟨⟨[], by simp [wr]⟩, fun x k j _ e1 => ?_⟩
  show (if x = a ∧ k = i then some v else h.2.2.2 x k) = some j
  by_cases hc : x = a ∧ k = i
  · rw [hc.1, hc.2] at e1
    rw [e] at e1
    cases e1
  · rw [if_neg hc]
    exact e1
theorem ext_hn (h : AH) (t n : Nat) : Ext h (hn h t n) := by
  refine ⟨⟨[(t, n)], rfl⟩, fun x k j hx e1 => ?_⟩
  show (if x = h.1.length then none else h.2.2.2 x k) = some j
  rw [if_neg (by omega)]
  exact e1
section HRS
variable {D : va_G} {cA : Nat → ClassId} {cS : ClassId} {b B : Nat} {h : AH} {H : Heap}
theorem HR.pos (hR : HR D cA cS b B h H) {a : Nat} {q : Nat × Nat} (e : hs h a = some q) (h9 : q.1 ≠ 9) : ∃ i, a = i + 1 := by
  cases a with
  | zero =>
    obtain ⟨L, scr, h1, -⟩ := hR.2.2.1
    have h1 : hs h 0 = some (9, L) := h1
    rw [e] at h1
    cases h1
    exact absurd rfl h9
  | succ i => exact ⟨i, rfl⟩
theorem HR.at (hR : HR D cA cS b B h H) {a : Nat} {q : Nat × Nat} (e : hs h a = some q) (h9 : q.1 ≠ 9) : va_at D vwCl (rho b B a, eOf cA b B h a q) H ∧ B ≤ rho b B a := by
  obtain ⟨i, rfl⟩ := hR.pos e h9
  exact ⟨(hR.2.2.2 i q e).2, Nat.le_add_right _ _⟩
theorem HR.P (hR : HR D cA cS b B h H) {a : Nat} {q : Nat × Nat} {E : va_E} (e : hs h a = some q) (h9 : q.1 ≠ 9) (hE : eOf cA b B h a q = E) : va_P D vwCl [(rho b B a, E)] H := by
  intro k x hx
  cases k with
  | zero => cases hx; rw [← hE]; exact (hR.at e h9).1
  | succ k => simp at hx
theorem va_P.one {E : va_E} {x : Nat} (h : va_at D vwCl (x, E) H) : va_P D vwCl [(x, E)] H := by
  intro k y hy
  cases k with
  | zero => cases hy; exact h
  | succ k => simp at hy
/-- one cell has changed -/
theorem HR.upd (hR : HR D cA cS b B h H) {a : Nat} {q : Nat × Nat} (e : hs h a = some q) (h9 : q.1 ≠ 9) {h1 : AH} {H1 : Heap} (z : H1.size = H.size) (o : ∀ x, x ≠ rho b B a → H1[x]? = H[x]?) (e1 : h1.1 = h.1) (ho : ∀ a' q', a' ≠ a → eOf cA b B h1 a' q' = eOf cA b B h a' q') (h00 : a ≠ 0 → h1.2.1 0 = h.2.1 0) (hn : va_at D vwCl (rho b B a, eOf cA b B h1 a q) H1) : HR D cA cS b B h1 H1 := by
  obtain ⟨i, rfl⟩ := hR.pos e h9
  obtain ⟨r1, r2, ⟨L, scr, s1, s2, s3, s4, s5, s6, s7⟩, r4⟩ := hR
  refine ⟨by rw [z, e1]; exact r1, r2, ⟨L, scr, by rw [e1]; exact s1, ?_, s3, s4, s5, s6, fun j hj => by rw [h00 (by omega)]; exact s7 j hj⟩, fun x q' hx => ?_⟩
  · rw [o b (by show b ≠ B + i; omega)]
    exact s2
  · rw [e1] at hx
    by_cases hxi : x = i
    · subst hxi
      have hq : q' = q := Option.some.inj (hx.symm.trans e)
      subst hq
      exact ⟨h9, hn⟩
    · refine ⟨(r4 x q' hx).1, ?_⟩
      rw [ho (x + 1) q' (by omega)]
      exact (r4 x q' hx).2.kept (o (B + x) (by show B + x ≠ B + i; omega))
theorem eOf_wi {a i a' : Nat} {v : Int32} (q : Nat × Nat) (hne : a' ≠ a) : eOf cA b B (wi h a i v) a' q = eOf cA b B h a' q := by
  have e1 : (wi h a i v).2.1 a' = h.2.1 a' := by funext j; simp [wi, hne]
  have e4 : ∀ t, fvl b B (wi h a i v) a' t = fvl b B h a' t := by
    intro t
    funext k
    unfold fvl
    rw [e1]
    rfl
  unfold eOf
  rw [e1]
  split <;> first | rfl | (rw [e4])
theorem eOf_wl {a i a' : Nat} {v : Int64} (q : Nat × Nat) (hne : a' ≠ a) : eOf cA b B (wl h a i v) a' q = eOf cA b B h a' q := by
  have e1 : (wl h a i v).2.2.1 a' = h.2.2.1 a' := by funext j; simp [wl, hne]
  unfold eOf
  rw [e1]
  split <;> rfl
theorem eOf_wr {a i a' v : Nat} (q : Nat × Nat) (hne : a' ≠ a) : eOf cA b B (wr h a i v) a' q = eOf cA b B h a' q := by
  have e1 : (wr h a i v).2.2.2 a' = h.2.2.2 a' := by funext j; simp [wr, hne]
  have e4 : ∀ t, fvl b B (wr h a i v) a' t = fvl b B h a' t := by
    intro t
    funext k
    unfold fvl
    rw [e1]
    rfl
  unfold eOf
  rw [e1]
  split <;> first | rfl | (rw [e4])
theorem eOf_wa {a a' : Nat} {f : Nat → Int32} (q : Nat × Nat) (hne : a' ≠ a) : eOf cA b B (wa h a f) a' q = eOf cA b B h a' q := by
  have e1 : (wa h a f).2.1 a' = h.2.1 a' := by funext j; simp [wa, hne]
  have e4 : ∀ t, fvl b B (wa h a f) a' t = fvl b B h a' t := by
    intro t
    funext k
    unfold fvl
    rw [e1]
    rfl
  unfold eOf
  rw [e1]
  split <;> first | rfl | (rw [e4])
theorem eOf_hn {a' t n : Nat} (q : Nat × Nat) (hne : a' ≠ h.1.length) : eOf cA b B (hn h t n) a' q = eOf cA b B h a' q := by
  have e1 : (hn h t n).2.1 a' = h.2.1 a' := by funext j; simp [hn, hne]
  have e2 : (hn h t n).2.2.1 a' = h.2.2.1 a' := by funext j; simp [hn, hne]
  have e3 : (hn h t n).2.2.2 a' = h.2.2.2 a' := by funext j; simp [hn, hne]
  have e4 : ∀ t', fvl b B (hn h t n) a' t' = fvl b B h a' t' := by
    intro t'
    funext k
    unfold fvl
    rw [e1, e3]
  unfold eOf
  rw [e1, e2, e3]
  split <;> first | rfl | (rw [e4])
/-- a cell has been made -/
theorem HR.new (hR : HR D cA cS b B h H) {t n : Nat} {H1 : Heap} (z : H1.size = H.size + 1) (o : ∀ x, x < H.size → H1[x]? = H[x]?) (h9 : t ≠ 9) (hn1 : va_at D vwCl (H.size, eOf cA b B (hn h t n) h.1.length (t, n)) H1) : HR D cA cS b B (hn h t n) H1 ∧ rho b B h.1.length = H.size := by
  obtain ⟨r1, r2, ⟨L, scr, s1, s2, s3, s4, s5, s6, s7⟩, r4⟩ := hR
  have hl : 0 < h.1.length := (List.getElem?_eq_some_iff.mp s1).1
  obtain ⟨len, hlen⟩ : ∃ len, h.1.length = len + 1 := ⟨h.1.length - 1, by omega⟩
  have hrho : rho b B h.1.length = H.size := by rw [hlen]; show B + len = _; omega
  refine ⟨⟨by rw [z]; show _ = B + (h.1 ++ [(t, n)]).length; rw [List.length_append]; simp; omega, r2, ⟨L, scr, ?_, ?_, s3, s4, s5, s6, fun j hj => ?_⟩, fun x q' hx => ?_⟩, hrho⟩
  · show (h.1 ++ [(t, n)])[0]? = _
    rw [List.getElem?_append_left hl]
    exact s1
  · rw [o b (by omega)]
    exact s2
  · show scr.slots[j]? = some (.int (if 0 = h.1.length then 0 else h.2.1 0 j))
    rw [if_neg (by omega)]
    exact s7 j hj
  · have hx : (h.1 ++ [(t, n)])[x + 1]? = some q' := hx
    by_cases hxl : x + 1 < h.1.length
    · rw [List.getElem?_append_left hxl] at hx
      refine ⟨(r4 x q' hx).1, ?_⟩
      rw [eOf_hn q' (by omega)]
      have h2 := (r4 x q' hx).2
      exact h2.kept (o (B + x) (by have := h2.lt; exact this))
    · rw [List.getElem?_append_right (by omega)] at hx
      have hz : x + 1 - h.1.length = 0 := by
        by_cases hz : x + 1 - h.1.length = 0
        · exact hz
        · rw [List.getElem?_eq_none (by simp; omega)] at hx
          cases hx
      rw [hz] at hx
      cases hx
      have hx2 : x + 1 = h.1.length := by omega
      refine ⟨h9, ?_⟩
      rw [hx2, show B + x = H.size by omega]
      exact hn1
end HRS

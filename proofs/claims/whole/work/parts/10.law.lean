/-! the claim's start gives the abstract machine's start -/
def h00 (L : Nat) (xs : Nat → Int32) : AH := ([(9, L)], fun a i => if a = 0 then xs i else 0, fun _ _ => 0, fun _ _ => none)
theorem tb_start {s : State} {args : Array Value} {cS : ClassId} (hts : ∀ w ∈ lw_tbl, w.before args s = true) (hcS : ∃ (k : Class) (comp : ClassId), s.vm.classes[cS]? = some k ∧ k.kind = .array comp .int) : ∃ (D : va_G) (cA : Nat → ClassId), TB D cA cS s := by
  have K : ∀ {C : String} {T : u_T} {N : Nat}, (∀ w ∈ u_ws C T N, w ∈ lw_tbl) → Cond.instantiable C N ∈ lw_tbl → ∃ (cC : ClassId) (iS : Nat → Nat), u_Kn s C T N cC iS := fun h1 h2 => u_known hts h1 (hts _ h2)
  obtain ⟨c0, i0, k0⟩ := K wd_lay0 wd_in0
  obtain ⟨c1, i1, k1⟩ := K wd_lay1 wd_in1
  obtain ⟨c2, i2, k2⟩ := K wd_lay2 wd_in2
  obtain ⟨c3, i3, k3⟩ := K wd_lay3 wd_in3
  obtain ⟨c4, i4, k4⟩ := K wd_lay4 wd_in4
  obtain ⟨c5, i5, k5⟩ := K wd_lay5 wd_in5
  obtain ⟨c6, i6, k6⟩ := K wd_lay6 wd_in6
  obtain ⟨c7, i7, k7⟩ := K wd_lay7 wd_in7
  obtain ⟨a0, ka0, ca0, x0, y0, z0⟩ := Cond.arrayClass_spec (hts _ wd_arr_int)
  obtain ⟨a1, ka1, ca1, x1, y1, z1⟩ := Cond.arrayClass_spec (hts _ wd_arr_long)
  obtain ⟨a2, ka2, ca2, x2, y2, z2⟩ := Cond.arrayClass_spec (hts _ wd_arr_boolean)
  obtain ⟨m3, a3, ka3, f3, -, x3, y3, z3⟩ := Cond.arrayOver_spec (hts _ wd_ov2)
  obtain ⟨m4, a4, ka4, f4, -, x4, y4, z4⟩ := Cond.arrayOver_spec (hts _ wd_ov0)
  obtain ⟨m5, a5, ka5, f5, -, x5, y5, z5⟩ := Cond.arrayOver_spec (hts _ wd_ov3)
  refine ⟨(fun c => match c with | 0 => c0 | 1 => c1 | 2 => c2 | 3 => c3 | 4 => c4 | 5 => c5 | 6 => c6 | _ => c7, fun c => match c with | 0 => i0 | 1 => i1 | 2 => i2 | 3 => i3 | 4 => i4 | 5 => i5 | 6 => i6 | _ => i7), fun t => match t with | 0 => a0 | 1 => a1 | 2 => a2 | 3 => a3 | 4 => a4 | _ => a5, ⟨⟨fun c q hq => ?_, fun t q hq => ?_⟩, fun q hq => va_Nw.of rfl (hts _ (wd_nest q hq)), ⟨va_AO.of (hts _ wd_ov2), va_AO.of (hts _ wd_ov0), va_AO.of (hts _ wd_ov3)⟩, hcS⟩⟩
  · match c, hq with
    | 0, hq => cases hq; exact k0
    | 1, hq => cases hq; exact k1
    | 2, hq => cases hq; exact k2
    | 3, hq => cases hq; exact k3
    | 4, hq => cases hq; exact k4
    | 5, hq => cases hq; exact k5
    | 6, hq => cases hq; exact k6
    | 7, hq => cases hq; exact k7
    | k + 8, hq => simp at hq
  · match t, hq with
    | 0, hq => cases hq; exact ⟨fun N z => ⟨fun k h => (by cases h), ka0, y0, ca0, z0⟩, x0⟩
    | 1, hq => cases hq; exact ⟨fun N z => ⟨fun k h => (by cases h), ka1, y1, ca1, z1⟩, x1⟩
    | 2, hq => cases hq; exact ⟨fun N z => ⟨fun k h => (by cases h), ka2, y2, ca2, z2⟩, x2⟩
    | 3, hq => cases hq; exact ⟨fun N z => ⟨fun k h => (by cases h), ka3, x3, m3, y3⟩, ka3, m3, x3, y3, f3, z3⟩
    | 4, hq => cases hq; exact ⟨fun N z => ⟨fun k h => (by cases h), ka4, x4, m4, y4⟩, ka4, m4, x4, y4, f4, z4⟩
    | 5, hq => cases hq; exact ⟨fun N z => ⟨fun k h => (by cases h), ka5, x5, m5, y5⟩, ka5, m5, x5, y5, f5, z5⟩
    | k + 6, hq => simp [tysL] at hq

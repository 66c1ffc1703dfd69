/-! the class's constructor -/
def S0 : St := (fun _ => (1, upB 1 eqR, fun _ => 0), [], fun _ => ([], []), [], (0, fun _ => 0, fun _ => 0, fun _ => 0, fun _ => 0), fun _ => none, 0)
/-- what lasts of the first cells -/
def PRE (h h1 : AH) : Prop := KP 1 h h1 ∧ (hs h1 1 = some (16, 10) ∧ ∀ q ∈ CF, mr h1 A_x q.1 = some q.2.1 ∧ hs h1 q.2.1 = some (q.2.2.1, q.2.2.2)) ∧ (mr h1 1 3 = some 5 ∧ is_T h1 5 ∧ mr h1 1 6 = some 10 ∧ is_A h1 10) ∧ (mi h1 5 0 = nI 0 ∧ mi h1 1 5 = nI 0 ∧ mi h1 10 0 = nI 0 ∧ mi h1 1 7 = nI 0)
section CIN
variable {h h1 h2 : AH}
theorem PRE.keep (p : PRE h h1) (e : Ext h1 h2) (k : ∀ a i, a < 19 → mi h2 a i = mi h1 a i) (k1 : KP 1 h1 h2) : PRE h h2 := by
  obtain ⟨p0, ⟨p1, p2⟩, ⟨p3, p4, p5, p6⟩, p7, p8, p9, p10⟩ := p
  have o := hs_lt p1
  exact ⟨p0.trans k1, ⟨e.shp p1, fun q hq => ⟨e.2 _ _ _ o (p2 q hq).1, e.shp (p2 q hq).2⟩⟩, ⟨e.2 _ _ _ o p3, p4.ext e, e.2 _ _ _ o p5, p6.ext e⟩, (k _ _ (by decide)).trans p7, (k _ _ (by decide)).trans p8, (k _ _ (by decide)).trans p9, (k _ _ (by decide)).trans p10⟩
def CA (h h1 : AH) (L m : Nat) : Prop := h1.1.length = L ∧ KP 1 h h1 ∧ hs h1 1 = some (16, 10) ∧ (hs h1 2 = some (3, 4) ∧ hs h1 3 = some (4, 6) ∧ hs h1 4 = some (5, 3)) ∧ (mr h1 1 0 = some 2 ∧ mr h1 1 1 = some 3 ∧ mr h1 1 2 = some 4) ∧ (∀ i, mr h1 2 i = none ∧ mr h1 3 i = none ∧ mr h1 4 i = none) ∧ ∀ j, m ≤ j → mr h1 1 j = none
variable {L L2 m j v : Nat}
theorem CA.keep (c : CA h h1 L m) (e : Ext h1 h2) (k : KP 5 h1 h2) (l : h2.1.length = L2) : CA h h2 L2 m := by
  obtain ⟨c0, c1, c2, ⟨c3, c4, c5⟩, ⟨c6, c7, c8⟩, c9, c10⟩ := c
  have o := hs_lt c2
  exact ⟨l, c1.trans (k.le (by decide)), e.shp c2, ⟨e.shp c3, e.shp c4, e.shp c5⟩, ⟨e.2 _ _ _ o c6, e.2 _ _ _ o c7, e.2 _ _ _ o c8⟩, fun i => ⟨(k 2 i (by decide)).2.2.trans (c9 i).1, (k 3 i (by decide)).2.2.trans (c9 i).2.1, (k 4 i (by decide)).2.2.trans (c9 i).2.2⟩, fun j hj => (k 1 j (by decide)).2.2.trans (c10 j hj)⟩
theorem CA.wr (c : CA h h1 L m) (hm : 3 ≤ m) (hj : m ≤ j) : CA h (wr h1 1 j v) L (j + 1) := by
  obtain ⟨c0, c1, c2, c3, ⟨c6, c7, c8⟩, c9, c10⟩ := c
  refine ⟨c0, fun a i ha => ⟨(c1 a i ha).1, (c1 a i ha).2.1, ?_⟩, c2, c3, ⟨?_, ?_, ?_⟩, fun i => ⟨?_, ?_, ?_⟩, fun y hy => ?_⟩
  · rw [mr_wr, if_neg (fun q => by omega)]; exact (c1 a i ha).2.2
  · rw [mr_wr, if_neg (fun q => by omega)]; exact c6
  · rw [mr_wr, if_neg (fun q => by omega)]; exact c7
  · rw [mr_wr, if_neg (fun q => by omega)]; exact c8
  · rw [mr_wr, if_neg (fun q => absurd q.1 (by decide))]; exact (c9 i).1
  · rw [mr_wr, if_neg (fun q => absurd q.1 (by decide))]; exact (c9 i).2.1
  · rw [mr_wr, if_neg (fun q => absurd q.1 (by decide))]; exact (c9 i).2.2
  · rw [mr_wr, if_neg (fun q => by omega)]; exact c10 y (by omega)
theorem CA.wi {w : Int32} (c : CA h h1 L m) : CA h (wi h1 1 j w) L m := by
  obtain ⟨c0, c1, c2, c3, c6, c9, c10⟩ := c
  exact ⟨c0, fun a i ha => ⟨by rw [mi_ne (by omega)]; exact (c1 a i ha).1, (c1 a i ha).2.1, (c1 a i ha).2.2⟩, c2, c3, c6, c9, c10⟩
theorem CA.hn {t n : Nat} (c : CA h h1 L m) (hL : 5 ≤ L) : CA h (hn h1 t n) (L + 1) m := by
  have l := c.1
  exact c.keep (ext_hn _ _ _) (KP.rf.hn (by omega)) (by rw [len_hn, l])
theorem CA.al {t n : Nat} (c : CA h h1 L m) (hL : 5 ≤ L) (hm : 3 ≤ m) (hj : m ≤ j) : CA h (al h1 1 j t n) (L + 1) (j + 1) := (c.hn hL).wr hm hj
end CIN
section CI2
variable {h : AH} {d g : Nat} {Q : AH → Prop}
def LPP (h h1 : AH) (k : Nat) : Prop := PRE h h1 ∧ h1.1.length = 19 + 6 * k ∧ (∀ y, y < k → mr h1 2 y = some (aP y) ∧ is_P h1 (aP y) ∧ PC h1 (aP y) 1 (upB 1 eqR) (fun _ => 0)) ∧ (∀ y, k ≤ y → mr h1 2 y = none) ∧ ∀ y, mr h1 3 y = none ∧ mr h1 4 y = none
def PSS (h1 : AH) : Prop := ∀ y, y < 4 → mr h1 2 y = some (aP y) ∧ is_P h1 (aP y) ∧ PC h1 (aP y) 1 (upB 1 eqR) (fun _ => 0)
def FSS (h1 : AH) : Prop := ∀ y, y < 6 → mr h1 3 y = some (aF y) ∧ is_F h1 (aF y) ∧ mi h1 (aF y) 0 = nI 0
def LFF (h h1 : AH) (k : Nat) : Prop := PRE h h1 ∧ PSS h1 ∧ h1.1.length = 43 + 4 * k ∧ (∀ y, y < k → mr h1 3 y = some (aF y) ∧ is_F h1 (aF y) ∧ mi h1 (aF y) 0 = nI 0) ∧ (∀ y, k ≤ y → mr h1 3 y = none) ∧ ∀ y, mr h1 4 y = none
def LRR (h h1 : AH) (k : Nat) : Prop := PRE h h1 ∧ PSS h1 ∧ FSS h1 ∧ h1.1.length = 67 + 2 * k ∧ (∀ y, y < k → mr h1 4 y = some (aR y) ∧ is_R h1 (aR y) ∧ mi h1 (aR y) 1 = m1) ∧ (∀ y, k ≤ y → mr h1 4 y = none)
theorem kp_step {h1 h3 : AH} {r c k t n : Nat} (hr : h1.1.length = r) (c1 : 1 ≤ c) (c2 : c < 5) (r5 : 5 ≤ r) (kp : KP r (hn h1 t n) h3) (e : Ext (hn h1 t n) h3) (nn : mr h1 c k = none) : mr h3 c k = none ∧ Ext h1 (wr h3 c k r) ∧ (∀ a i, a < r → mi (wr h3 c k r) a i = mi h1 a i ∧ ml (wr h3 c k r) a i = ml h1 a i ∧ (¬ (a = c ∧ i = k) → mr (wr h3 c k r) a i = mr h1 a i)) := by
  have k2 : KP r h1 h3 := (KP.rf.hn (by omega)).trans kp
  have n3 : mr h3 c k = none := (k2 c k (by omega)).2.2.trans nn
  refine ⟨n3, ((ext_hn _ _ _).trans e).trans (ext_wr _ n3), fun a i ha => ⟨(k2 a i ha).1, (k2 a i ha).2.1, fun q => ?_⟩⟩
  rw [mr_wr, if_neg q]
  exact (k2 a i ha).2.2
theorem PSS.keep {h1 h2 : AH} (p : PSS h1) (e : Ext h1 h2) (o : 2 < h1.1.length) (k : ∀ a i, a < 43 → mi h2 a i = mi h1 a i ∧ ml h2 a i = ml h1 a i) : PSS h2 := fun y hy => by
  obtain ⟨a, b, c⟩ := p y hy
  exact ⟨e.2 _ _ _ o a, b.ext e, c.keep (P := fun q _ => q < 43) (fun q i hq => k q i hq) (fun q j z1 z2 => by simp only [aP] at *; omega)⟩
theorem FSS.keep {h1 h2 : AH} (p : FSS h1) (e : Ext h1 h2) (o : 3 < h1.1.length) (k : ∀ a i, a < 67 → mi h2 a i = mi h1 a i) : FSS h2 := fun y hy => by
  obtain ⟨a, b, c⟩ := p y hy
  exact ⟨e.2 _ _ _ o a, b.ext e, (k _ _ (by simp only [aF]; omega)).trans c⟩
theorem I_C3 (hQ : ∀ h1, LRR h h1 3 → Q h1) : ∀ h1, LRR h h1 0 → Ev (d + 5) (g + 8) g m_C_init 139 [.ref 1, .int (nI 0)] [] h1 (asV Q) := fun h1 l0 => by
  have key := for_up (σ := AH) (fun k hh => Ev (d + 5) (g + 8 - 2 * k) g m_C_init 139 [.ref 1, .int (nI k)] [] hh (asV Q)) (fun k hh => LRR h hh k) 3 (fun hh l => ?_) (fun k hh hk l ih => ?_) 0 h1 (Nat.zero_le _) l0
  · exact key
  · exact u_C_init_139 (d := d + 4) (g := g) (Nat.le_refl _) l.1.2.1.1 (br_le 3 3 rfl rfl (fun _ => hQ hh l) (fun z => by omega))
  · obtain ⟨p, ps, fs, hl, dn, up⟩ := l
    rw [show g + 8 - 2 * k = (g + 6 - 2 * k) + 2 by omega]
    have c4 := p.2.1.2 (2, A_rows, 5, 3) (by decide)
    refine u_C_init_139 (d := d + 4) (g := g + 6 - 2 * k) (by omega) p.2.1.1 (br_le 3 k rfl rfl (fun z => by omega) (fun _ => ⟨4, c4.1, c4.2, ?_⟩))
    rw [hl]
    refine I_R (d := d + 3) (by rw [hs_hn', hl, if_pos rfl]) (by rw [len_hn, hl]) (fun i => by rw [mr_hn, hl, if_pos rfl]) fun h3 l3 r3 z3 kp e3 => ?_
    have st := kp_step (c := 4) (k := k) hl (by decide) (by decide) (by omega) kp e3 (up k (Nat.le_refl _))
    rw [nI_clamp (by omega), nI_add]
    refine ⟨vp_in_nI (by omega) (by decide), st.1, ?_⟩
    rw [show g + 6 - 2 * k = g + 8 - 2 * (k + 1) by omega]
    have ex := st.2.1
    refine ih _ ⟨p.keep ex (fun a i ha => (st.2.2 a i (by omega)).1) (fun a i ha => ⟨(st.2.2 a i (by omega)).1, (st.2.2 a i (by omega)).2.1, (st.2.2 a i (by omega)).2.2 (fun q => by omega)⟩), ps.keep ex (by omega) (fun a i ha => ⟨(st.2.2 a i (by omega)).1, (st.2.2 a i (by omega)).2.1⟩), fs.keep ex (by omega) (fun a i ha => (st.2.2 a i (by omega)).1), by show h3.1.length = _; omega, fun y hy => ?_, fun y hy => ?_⟩
    · by_cases c : y = k
      · subst c
        exact ⟨by rw [mr_wr, if_pos ⟨rfl, rfl⟩]; rfl, is_R.ext (ext_wr _ st.1) r3, z3⟩
      · obtain ⟨a, b, z⟩ := dn y (by omega)
        exact ⟨ex.2 _ _ _ (by omega) a, b.ext ex, ((st.2.2 _ _ (by simp only [aR]; omega)).1).trans z⟩
    · exact ((st.2.2 4 y (by omega)).2.2 (fun q => by omega)).trans (up y (by omega))
theorem I_C2 (hQ : ∀ h1, LRR h h1 3 → Q h1) : ∀ h1, LFF h h1 0 → Ev (d + 5) (g + 32) g m_C_init 112 [.ref 1, .int (nI 0)] [] h1 (asV Q) := fun h1 l0 => by
  have key := for_up (σ := AH) (fun k hh => Ev (d + 5) (g + 32 - 4 * k) g m_C_init 112 [.ref 1, .int (nI k)] [] hh (asV Q)) (fun k hh => LFF h hh k) 6 (fun hh l => ?_) (fun k hh hk l ih => ?_) 0 h1 (Nat.zero_le _) l0
  · exact key
  · obtain ⟨p, ps, hl, dn, up, un⟩ := l
    rw [show g + 32 - 4 * 6 = (g + 4) + 4 by omega]
    exact u_C_init_112 (d := d + 4) (by omega) p.2.1.1 (br_le 6 6 rfl rfl (fun _ => I_C3 hQ hh ⟨p, ps, dn, hl, fun y hy => absurd hy (Nat.not_lt_zero _), fun y _ => un y⟩) (fun z => by omega))
  · obtain ⟨p, ps, hl, dn, up, un⟩ := l
    rw [show g + 32 - 4 * k = (g + 28 - 4 * k) + 4 by omega]
    have c4 := p.2.1.2 (1, A_formulas, 4, 6) (by decide)
    refine u_C_init_112 (d := d + 4) (g := g + 28 - 4 * k) (by omega) p.2.1.1 (br_le 6 k rfl rfl (fun z => by omega) (fun _ => ⟨3, c4.1, c4.2, ?_⟩))
    rw [hl]
    refine I_F (d := d + 3) (by rw [hs_hn', hl, if_pos rfl]) (by rw [len_hn, hl]) (fun i => by rw [mr_hn, hl, if_pos rfl]) fun h3 l3 r3 z3 kp e3 => ?_
    have st := kp_step (c := 3) (k := k) hl (by decide) (by decide) (by omega) kp e3 (up k (Nat.le_refl _))
    rw [nI_clamp (by omega), nI_add]
    refine ⟨vp_in_nI (by omega) (by decide), st.1, ?_⟩
    rw [show g + 28 - 4 * k = g + 32 - 4 * (k + 1) by omega]
    have ex := st.2.1
    refine ih _ ⟨p.keep ex (fun a i ha => (st.2.2 a i (by omega)).1) (fun a i ha => ⟨(st.2.2 a i (by omega)).1, (st.2.2 a i (by omega)).2.1, (st.2.2 a i (by omega)).2.2 (fun q => by omega)⟩), ps.keep ex (by omega) (fun a i ha => ⟨(st.2.2 a i (by omega)).1, (st.2.2 a i (by omega)).2.1⟩), by show h3.1.length = _; omega, fun y hy => ?_, fun y hy => ?_, fun y => ?_⟩
    · by_cases c : y = k
      · subst c
        exact ⟨by rw [mr_wr, if_pos ⟨rfl, rfl⟩]; rfl, is_F.ext (ext_wr _ st.1) r3, z3⟩
      · obtain ⟨a, b, z⟩ := dn y (by omega)
        exact ⟨ex.2 _ _ _ (by omega) a, b.ext ex, ((st.2.2 _ _ (by simp only [aF]; omega)).1).trans z⟩
    · exact ((st.2.2 3 y (by omega)).2.2 (fun q => by omega)).trans (up y (by omega))
    · exact ((st.2.2 4 y (by omega)).2.2 (fun q => by omega)).trans (un y)
theorem I_C1 (hQ : ∀ h1, LRR h h1 3 → Q h1) : ∀ h1, LPP h h1 0 → Ev (d + 5) (g + 56) g m_C_init 86 [.ref 1, .int (nI 0)] [] h1 (asV Q) := fun h1 l0 => by
  have key := for_up (σ := AH) (fun k hh => Ev (d + 5) (g + 56 - 6 * k) g m_C_init 86 [.ref 1, .int (nI k)] [] hh (asV Q)) (fun k hh => LPP h hh k) 4 (fun hh l => ?_) (fun k hh hk l ih => ?_) 0 h1 (Nat.zero_le _) l0
  · exact key
  · obtain ⟨p, hl, dn, up, un⟩ := l
    rw [show g + 56 - 6 * 4 = (g + 26) + 6 by omega]
    exact u_C_init_86 (d := d + 4) (by omega) p.2.1.1 (br_le 4 4 rfl rfl (fun _ => I_C2 hQ hh ⟨p, dn, hl, fun y hy => absurd hy (Nat.not_lt_zero _), fun y _ => (un y).1, fun y => (un y).2⟩) (fun z => by omega))
  · obtain ⟨p, hl, dn, up, un⟩ := l
    rw [show g + 56 - 6 * k = (g + 50 - 6 * k) + 6 by omega]
    have c4 := p.2.1.2 (0, A_posets, 3, 4) (by decide)
    refine u_C_init_86 (d := d + 4) (g := g + 50 - 6 * k) (by omega) p.2.1.1 (br_le 4 k rfl rfl (fun z => by omega) (fun _ => ⟨2, c4.1, c4.2, ?_⟩))
    rw [hl]
    refine I_P (d := d) (by rw [hs_hn', hl, if_pos rfl]) (by rw [len_hn, hl]) (fun i => by rw [mr_hn, hl, if_pos rfl]) fun h3 l3 r3 z3 kp e3 => ?_
    have st := kp_step (c := 2) (k := k) hl (by decide) (by decide) (by omega) kp e3 (up k (Nat.le_refl _))
    rw [nI_clamp (by omega), nI_add]
    refine ⟨vp_in_nI (by omega) (by decide), st.1, ?_⟩
    rw [show g + 50 - 6 * k = g + 56 - 6 * (k + 1) by omega]
    have ex := st.2.1
    refine ih _ ⟨p.keep ex (fun a i ha => (st.2.2 a i (by omega)).1) (fun a i ha => ⟨(st.2.2 a i (by omega)).1, (st.2.2 a i (by omega)).2.1, (st.2.2 a i (by omega)).2.2 (fun q => by omega)⟩), by show h3.1.length = _; omega, fun y hy => ?_, fun y hy => ?_, fun y => ⟨?_, ?_⟩⟩
    · by_cases c : y = k
      · subst c
        exact ⟨by rw [mr_wr, if_pos ⟨rfl, rfl⟩]; rfl, is_P.ext (ext_wr _ st.1) r3, z3⟩
      · obtain ⟨a, b, z⟩ := dn y (by omega)
        exact ⟨ex.2 _ _ _ (by omega) a, b.ext ex, z.keep (P := fun q _ => q < 19 + 6 * k) (fun q i hq => ⟨(st.2.2 q i hq).1, (st.2.2 q i hq).2.1⟩) (fun q j z1 z2 => by simp only [aP] at *; omega)⟩
    · exact ((st.2.2 2 y (by omega)).2.2 (fun q => by omega)).trans (up y (by omega))
    · exact ((st.2.2 3 y (by omega)).2.2 (fun q => by omega)).trans (un y).1
    · exact ((st.2.2 4 y (by omega)).2.2 (fun q => by omega)).trans (un y).2
theorem LRR.inv {h1 : AH} (l : LRR h h1 3) : h1.1.length = 73 ∧ InvC h1 S0 ∧ KP 1 h h1 := by
  obtain ⟨⟨p0, ⟨p1, p2⟩, ⟨p3, p4, p5, p6⟩, p7, p8, p9, p10⟩, ps, fs, hl, dn, -⟩ := l
  refine ⟨hl, ⟨⟨p1, p2, p3, p4, p5, p6, fun i hi => ⟨(ps i hi).1, (ps i hi).2.1⟩, fun i hi => ⟨(fs i hi).1, (fs i hi).2.1⟩, fun i hi => ⟨(dn i hi).1, (dn i hi).2.1⟩⟩, fun i hi => (ps i hi).2.2, ⟨p7, fun i hi => absurd hi (Nat.not_lt_zero _)⟩, fun i hi => ⟨(fs i hi).2.2, fun k hk => absurd hk (Nat.not_lt_zero _)⟩, ⟨p8, fun i hi => absurd hi (Nat.not_lt_zero _)⟩, ⟨p9, fun i hi => absurd hi (Nat.not_lt_zero _)⟩, fun r hr => (dn r hr).2.2, p10⟩, p0⟩
end CI2

abbrev A_x : Nat := 1
abbrev A_posets : Nat := 2
abbrev A_formulas : Nat := 3
abbrev A_rows : Nat := 4
abbrev A_text : Nat := 5
abbrev A_gens : Nat := 9
abbrev A_sub : Nat := 10
abbrev A_dOrd : Nat := 17
abbrev A_dSig : Nat := 18
abbrev A_M : Nat := 73
abbrev M_size : Nat := 74
abbrev M_up : Nat := 75
abbrev M_valued : Nat := 76
abbrev M_elements : Nat := 77
abbrev M_numberOf : Nat := 78
abbrev M_text : Nat := 79
abbrev M_formula : Nat := 80
abbrev M_formulaSizes : Nat := 81
abbrev M_made : Nat := 82
abbrev M_pending : Nat := 83
abbrev M_given : Nat := 84
abbrev M_stack : Nat := 85
abbrev M_generators : Nat := 86
abbrev M_operator : Nat := 87
abbrev M_left : Nat := 88
abbrev M_right : Nat := 89
abbrev M_cost : Nat := 90
abbrev M_map : Nat := 91
abbrev M_rows : Nat := 92
abbrev M_moved : Nat := 93
abbrev M_rowType : Nat := 94
abbrev M_rowLength : Nat := 95
def aP (i : Nat) : Nat := 19 + 6 * i
def aF (i : Nat) : Nat := 43 + 4 * i
def aR (i : Nat) : Nat := 67 + 2 * i
def is_P (h : AH) (a : Nat) : Prop := hs h a = some (12, 7) ∧ mr h a 1 = some (a + 1) ∧ hs h (a + 1) = some (0, 6) ∧ mr h a 2 = some (a + 2) ∧ hs h (a + 2) = some (0, 64) ∧ mr h a 4 = some (a + 3) ∧ hs h (a + 3) = some (0, 64) ∧ mr h a 5 = some (a + 4) ∧ hs h (a + 4) = some (0, 64) ∧ mr h a 6 = some (a + 5) ∧ hs h (a + 5) = some (0, 3)
theorem is_P.o {h : AH} {a : Nat} (f : is_P h a) : hs h a = some (12, 7) := f.1
theorem is_P.r_above {h : AH} {a : Nat} (f : is_P h a) : mr h a 1 = some (a + 1) := f.2.1
theorem is_P.s_above {h : AH} {a : Nat} (f : is_P h a) : hs h (a + 1) = some (0, 6) := f.2.2.1
theorem is_P.r_downSet {h : AH} {a : Nat} (f : is_P h a) : mr h a 2 = some (a + 2) := f.2.2.2.1
theorem is_P.s_downSet {h : AH} {a : Nat} (f : is_P h a) : hs h (a + 2) = some (0, 64) := f.2.2.2.2.1
theorem is_P.r_bitsOf {h : AH} {a : Nat} (f : is_P h a) : mr h a 4 = some (a + 3) := f.2.2.2.2.2.1
theorem is_P.s_bitsOf {h : AH} {a : Nat} (f : is_P h a) : hs h (a + 3) = some (0, 64) := f.2.2.2.2.2.2.1
theorem is_P.r_numberOf {h : AH} {a : Nat} (f : is_P h a) : mr h a 5 = some (a + 4) := f.2.2.2.2.2.2.2.1
theorem is_P.s_numberOf {h : AH} {a : Nat} (f : is_P h a) : hs h (a + 4) = some (0, 64) := f.2.2.2.2.2.2.2.2.1
theorem is_P.r_valuation {h : AH} {a : Nat} (f : is_P h a) : mr h a 6 = some (a + 5) := f.2.2.2.2.2.2.2.2.2.1
theorem is_P.s_valuation {h : AH} {a : Nat} (f : is_P h a) : hs h (a + 5) = some (0, 3) := f.2.2.2.2.2.2.2.2.2.2
theorem is_P.ext {h h1 : AH} {a : Nat} (x : Ext h h1) (f : is_P h a) : is_P h1 a := ⟨x.shp f.o, x.rfs f.o f.r_above, x.shp f.s_above, x.rfs f.o f.r_downSet, x.shp f.s_downSet, x.rfs f.o f.r_bitsOf, x.shp f.s_bitsOf, x.rfs f.o f.r_numberOf, x.shp f.s_numberOf, x.rfs f.o f.r_valuation, x.shp f.s_valuation⟩
def is_F (h : AH) (a : Nat) : Prop := hs h a = some (10, 4) ∧ mr h a 1 = some (a + 1) ∧ hs h (a + 1) = some (0, 60) ∧ mr h a 2 = some (a + 2) ∧ hs h (a + 2) = some (0, 5) ∧ mr h a 3 = some (a + 3) ∧ hs h (a + 3) = some (0, 60)
theorem is_F.o {h : AH} {a : Nat} (f : is_F h a) : hs h a = some (10, 4) := f.1
theorem is_F.r_signs {h : AH} {a : Nat} (f : is_F h a) : mr h a 1 = some (a + 1) := f.2.1
theorem is_F.s_signs {h : AH} {a : Nat} (f : is_F h a) : hs h (a + 1) = some (0, 60) := f.2.2.1
theorem is_F.r_leafBits {h : AH} {a : Nat} (f : is_F h a) : mr h a 2 = some (a + 2) := f.2.2.2.1
theorem is_F.s_leafBits {h : AH} {a : Nat} (f : is_F h a) : hs h (a + 2) = some (0, 5) := f.2.2.2.2.1
theorem is_F.r_stack {h : AH} {a : Nat} (f : is_F h a) : mr h a 3 = some (a + 3) := f.2.2.2.2.2.1
theorem is_F.s_stack {h : AH} {a : Nat} (f : is_F h a) : hs h (a + 3) = some (0, 60) := f.2.2.2.2.2.2
theorem is_F.ext {h h1 : AH} {a : Nat} (x : Ext h h1) (f : is_F h a) : is_F h1 a := ⟨x.shp f.o, x.rfs f.o f.r_signs, x.shp f.s_signs, x.rfs f.o f.r_leafBits, x.shp f.s_leafBits, x.rfs f.o f.r_stack, x.shp f.s_stack⟩
def is_R (h : AH) (a : Nat) : Prop := hs h a = some (13, 3) ∧ mr h a 2 = some (a + 1) ∧ hs h (a + 1) = some (0, 30)
theorem is_R.o {h : AH} {a : Nat} (f : is_R h a) : hs h a = some (13, 3) := f.1
theorem is_R.r_data {h : AH} {a : Nat} (f : is_R h a) : mr h a 2 = some (a + 1) := f.2.1
theorem is_R.s_data {h : AH} {a : Nat} (f : is_R h a) : hs h (a + 1) = some (0, 30) := f.2.2
theorem is_R.ext {h h1 : AH} {a : Nat} (x : Ext h h1) (f : is_R h a) : is_R h1 a := ⟨x.shp f.o, x.rfs f.o f.r_data, x.shp f.s_data⟩
def is_T (h : AH) (a : Nat) : Prop := hs h a = some (15, 9) ∧ mr h a 1 = some (a + 1) ∧ hs h (a + 1) = some (0, 40) ∧ mr h a 3 = some (a + 2) ∧ hs h (a + 2) = some (0, 40) ∧ mr h a 4 = some (a + 3) ∧ hs h (a + 3) = some (0, 40)
theorem is_T.o {h : AH} {a : Nat} (f : is_T h a) : hs h a = some (15, 9) := f.1
theorem is_T.r_characters {h : AH} {a : Nat} (f : is_T h a) : mr h a 1 = some (a + 1) := f.2.1
theorem is_T.s_characters {h : AH} {a : Nat} (f : is_T h a) : hs h (a + 1) = some (0, 40) := f.2.2.1
theorem is_T.r_signs {h : AH} {a : Nat} (f : is_T h a) : mr h a 3 = some (a + 2) := f.2.2.2.1
theorem is_T.s_signs {h : AH} {a : Nat} (f : is_T h a) : hs h (a + 2) = some (0, 40) := f.2.2.2.2.1
theorem is_T.r_waiting {h : AH} {a : Nat} (f : is_T h a) : mr h a 4 = some (a + 3) := f.2.2.2.2.2.1
theorem is_T.s_waiting {h : AH} {a : Nat} (f : is_T h a) : hs h (a + 3) = some (0, 40) := f.2.2.2.2.2.2
theorem is_T.ext {h h1 : AH} {a : Nat} (x : Ext h h1) (f : is_T h a) : is_T h1 a := ⟨x.shp f.o, x.rfs f.o f.r_characters, x.shp f.s_characters, x.rfs f.o f.r_signs, x.shp f.s_signs, x.rfs f.o f.r_waiting, x.shp f.s_waiting⟩
def is_A (h : AH) (a : Nat) : Prop := hs h a = some (14, 8) ∧ mr h a 1 = some (a + 1) ∧ hs h (a + 1) = some (1, 64) ∧ mr h a 2 = some (a + 2) ∧ hs h (a + 2) = some (0, 64) ∧ mr h a 3 = some (a + 3) ∧ hs h (a + 3) = some (0, 64) ∧ mr h a 4 = some (a + 4) ∧ hs h (a + 4) = some (0, 64) ∧ mr h a 6 = some (a + 5) ∧ hs h (a + 5) = some (0, 64) ∧ mr h a 7 = some (a + 6) ∧ hs h (a + 6) = some (2, 64)
theorem is_A.o {h : AH} {a : Nat} (f : is_A h a) : hs h a = some (14, 8) := f.1
theorem is_A.r_cost {h : AH} {a : Nat} (f : is_A h a) : mr h a 1 = some (a + 1) := f.2.1
theorem is_A.s_cost {h : AH} {a : Nat} (f : is_A h a) : hs h (a + 1) = some (1, 64) := f.2.2.1
theorem is_A.r_operator {h : AH} {a : Nat} (f : is_A h a) : mr h a 2 = some (a + 2) := f.2.2.2.1
theorem is_A.s_operator {h : AH} {a : Nat} (f : is_A h a) : hs h (a + 2) = some (0, 64) := f.2.2.2.2.1
theorem is_A.r_first {h : AH} {a : Nat} (f : is_A h a) : mr h a 3 = some (a + 3) := f.2.2.2.2.2.1
theorem is_A.s_first {h : AH} {a : Nat} (f : is_A h a) : hs h (a + 3) = some (0, 64) := f.2.2.2.2.2.2.1
theorem is_A.r_second {h : AH} {a : Nat} (f : is_A h a) : mr h a 4 = some (a + 4) := f.2.2.2.2.2.2.2.1
theorem is_A.s_second {h : AH} {a : Nat} (f : is_A h a) : hs h (a + 4) = some (0, 64) := f.2.2.2.2.2.2.2.2.1
theorem is_A.r_settled {h : AH} {a : Nat} (f : is_A h a) : mr h a 6 = some (a + 5) := f.2.2.2.2.2.2.2.2.2.1
theorem is_A.s_settled {h : AH} {a : Nat} (f : is_A h a) : hs h (a + 5) = some (0, 64) := f.2.2.2.2.2.2.2.2.2.2.1
theorem is_A.r_isSettled {h : AH} {a : Nat} (f : is_A h a) : mr h a 7 = some (a + 6) := f.2.2.2.2.2.2.2.2.2.2.2.1
theorem is_A.s_isSettled {h : AH} {a : Nat} (f : is_A h a) : hs h (a + 6) = some (2, 64) := f.2.2.2.2.2.2.2.2.2.2.2.2
theorem is_A.ext {h h1 : AH} {a : Nat} (x : Ext h h1) (f : is_A h a) : is_A h1 a := ⟨x.shp f.o, x.rfs f.o f.r_cost, x.shp f.s_cost, x.rfs f.o f.r_operator, x.shp f.s_operator, x.rfs f.o f.r_first, x.shp f.s_first, x.rfs f.o f.r_second, x.shp f.s_second, x.rfs f.o f.r_settled, x.shp f.s_settled, x.rfs f.o f.r_isSettled, x.shp f.s_isSettled⟩
def is_S (h : AH) (a ps pt : Nat) : Prop := hs h a = some (11, 6) ∧ mr h a 0 = some ps ∧ mr h a 1 = some pt ∧ mr h a 4 = some (a + 1) ∧ hs h (a + 1) = some (0, 6) ∧ is_P h ps ∧ is_P h pt
theorem is_S.o {h : AH} {a ps pt : Nat} (f : is_S h a ps pt) : hs h a = some (11, 6) := f.1
theorem is_S.r_source {h : AH} {a ps pt : Nat} (f : is_S h a ps pt) : mr h a 0 = some ps := f.2.1
theorem is_S.r_target {h : AH} {a ps pt : Nat} (f : is_S h a ps pt) : mr h a 1 = some pt := f.2.2.1
theorem is_S.r_images {h : AH} {a ps pt : Nat} (f : is_S h a ps pt) : mr h a 4 = some (a + 1) := f.2.2.2.1
theorem is_S.s_images {h : AH} {a ps pt : Nat} (f : is_S h a ps pt) : hs h (a + 1) = some (0, 6) := f.2.2.2.2.1
theorem is_S.p_source {h : AH} {a ps pt : Nat} (f : is_S h a ps pt) : is_P h ps := f.2.2.2.2.2.1
theorem is_S.p_target {h : AH} {a ps pt : Nat} (f : is_S h a ps pt) : is_P h pt := f.2.2.2.2.2.2
theorem is_S.ext {h h1 : AH} {a ps pt : Nat} (x : Ext h h1) (f : is_S h a ps pt) : is_S h1 a ps pt := ⟨x.shp f.o, x.rfs f.o f.r_source, x.rfs f.o f.r_target, x.rfs f.o f.r_images, x.shp f.s_images, f.p_source.ext x, f.p_target.ext x⟩
def MF : List (Nat × Nat × Nat × Nat) := [(0, M_size, 0, 5), (1, M_up, 0, 30), (2, M_valued, 0, 12), (3, M_elements, 0, 64), (4, M_numberOf, 0, 64), (6, M_text, 0, 40), (9, M_formula, 0, 360), (10, M_formulaSizes, 0, 6), (11, M_made, 0, 64), (12, M_pending, 0, 64), (16, M_given, 0, 3), (17, M_stack, 0, 64), (20, M_generators, 0, 4), (21, M_operator, 0, 64), (22, M_left, 0, 64), (23, M_right, 0, 64), (24, M_cost, 1, 64), (27, M_map, 0, 6), (28, M_rows, 0, 90), (29, M_moved, 0, 30), (30, M_rowType, 0, 3), (31, M_rowLength, 0, 3)]
def is_M (h : AH) : Prop := hs h A_M = some (17, 33) ∧ ∀ q ∈ MF, mr h A_M q.1 = some q.2.1 ∧ hs h q.2.1 = some (q.2.2.1, q.2.2.2)
theorem is_M.o {h : AH} (f : is_M h) : hs h A_M = some (17, 33) := f.1
theorem is_M.r_size {h : AH} (f : is_M h) : mr h A_M 0 = some M_size := (f.2 (0, M_size, 0, 5) (by decide)).1
theorem is_M.s_size {h : AH} (f : is_M h) : hs h M_size = some (0, 5) := (f.2 (0, M_size, 0, 5) (by decide)).2
theorem is_M.r_up {h : AH} (f : is_M h) : mr h A_M 1 = some M_up := (f.2 (1, M_up, 0, 30) (by decide)).1
theorem is_M.s_up {h : AH} (f : is_M h) : hs h M_up = some (0, 30) := (f.2 (1, M_up, 0, 30) (by decide)).2
theorem is_M.r_valued {h : AH} (f : is_M h) : mr h A_M 2 = some M_valued := (f.2 (2, M_valued, 0, 12) (by decide)).1
theorem is_M.s_valued {h : AH} (f : is_M h) : hs h M_valued = some (0, 12) := (f.2 (2, M_valued, 0, 12) (by decide)).2
theorem is_M.r_elements {h : AH} (f : is_M h) : mr h A_M 3 = some M_elements := (f.2 (3, M_elements, 0, 64) (by decide)).1
theorem is_M.s_elements {h : AH} (f : is_M h) : hs h M_elements = some (0, 64) := (f.2 (3, M_elements, 0, 64) (by decide)).2
theorem is_M.r_numberOf {h : AH} (f : is_M h) : mr h A_M 4 = some M_numberOf := (f.2 (4, M_numberOf, 0, 64) (by decide)).1
theorem is_M.s_numberOf {h : AH} (f : is_M h) : hs h M_numberOf = some (0, 64) := (f.2 (4, M_numberOf, 0, 64) (by decide)).2
theorem is_M.r_text {h : AH} (f : is_M h) : mr h A_M 6 = some M_text := (f.2 (6, M_text, 0, 40) (by decide)).1
theorem is_M.s_text {h : AH} (f : is_M h) : hs h M_text = some (0, 40) := (f.2 (6, M_text, 0, 40) (by decide)).2
theorem is_M.r_formula {h : AH} (f : is_M h) : mr h A_M 9 = some M_formula := (f.2 (9, M_formula, 0, 360) (by decide)).1
theorem is_M.s_formula {h : AH} (f : is_M h) : hs h M_formula = some (0, 360) := (f.2 (9, M_formula, 0, 360) (by decide)).2
theorem is_M.r_formulaSizes {h : AH} (f : is_M h) : mr h A_M 10 = some M_formulaSizes := (f.2 (10, M_formulaSizes, 0, 6) (by decide)).1
theorem is_M.s_formulaSizes {h : AH} (f : is_M h) : hs h M_formulaSizes = some (0, 6) := (f.2 (10, M_formulaSizes, 0, 6) (by decide)).2
theorem is_M.r_made {h : AH} (f : is_M h) : mr h A_M 11 = some M_made := (f.2 (11, M_made, 0, 64) (by decide)).1
theorem is_M.s_made {h : AH} (f : is_M h) : hs h M_made = some (0, 64) := (f.2 (11, M_made, 0, 64) (by decide)).2
theorem is_M.r_pending {h : AH} (f : is_M h) : mr h A_M 12 = some M_pending := (f.2 (12, M_pending, 0, 64) (by decide)).1
theorem is_M.s_pending {h : AH} (f : is_M h) : hs h M_pending = some (0, 64) := (f.2 (12, M_pending, 0, 64) (by decide)).2
theorem is_M.r_given {h : AH} (f : is_M h) : mr h A_M 16 = some M_given := (f.2 (16, M_given, 0, 3) (by decide)).1
theorem is_M.s_given {h : AH} (f : is_M h) : hs h M_given = some (0, 3) := (f.2 (16, M_given, 0, 3) (by decide)).2
theorem is_M.r_stack {h : AH} (f : is_M h) : mr h A_M 17 = some M_stack := (f.2 (17, M_stack, 0, 64) (by decide)).1
theorem is_M.s_stack {h : AH} (f : is_M h) : hs h M_stack = some (0, 64) := (f.2 (17, M_stack, 0, 64) (by decide)).2
theorem is_M.r_generators {h : AH} (f : is_M h) : mr h A_M 20 = some M_generators := (f.2 (20, M_generators, 0, 4) (by decide)).1
theorem is_M.s_generators {h : AH} (f : is_M h) : hs h M_generators = some (0, 4) := (f.2 (20, M_generators, 0, 4) (by decide)).2
theorem is_M.r_operator {h : AH} (f : is_M h) : mr h A_M 21 = some M_operator := (f.2 (21, M_operator, 0, 64) (by decide)).1
theorem is_M.s_operator {h : AH} (f : is_M h) : hs h M_operator = some (0, 64) := (f.2 (21, M_operator, 0, 64) (by decide)).2
theorem is_M.r_left {h : AH} (f : is_M h) : mr h A_M 22 = some M_left := (f.2 (22, M_left, 0, 64) (by decide)).1
theorem is_M.s_left {h : AH} (f : is_M h) : hs h M_left = some (0, 64) := (f.2 (22, M_left, 0, 64) (by decide)).2
theorem is_M.r_right {h : AH} (f : is_M h) : mr h A_M 23 = some M_right := (f.2 (23, M_right, 0, 64) (by decide)).1
theorem is_M.s_right {h : AH} (f : is_M h) : hs h M_right = some (0, 64) := (f.2 (23, M_right, 0, 64) (by decide)).2
theorem is_M.r_cost {h : AH} (f : is_M h) : mr h A_M 24 = some M_cost := (f.2 (24, M_cost, 1, 64) (by decide)).1
theorem is_M.s_cost {h : AH} (f : is_M h) : hs h M_cost = some (1, 64) := (f.2 (24, M_cost, 1, 64) (by decide)).2
theorem is_M.r_map {h : AH} (f : is_M h) : mr h A_M 27 = some M_map := (f.2 (27, M_map, 0, 6) (by decide)).1
theorem is_M.s_map {h : AH} (f : is_M h) : hs h M_map = some (0, 6) := (f.2 (27, M_map, 0, 6) (by decide)).2
theorem is_M.r_rows {h : AH} (f : is_M h) : mr h A_M 28 = some M_rows := (f.2 (28, M_rows, 0, 90) (by decide)).1
theorem is_M.s_rows {h : AH} (f : is_M h) : hs h M_rows = some (0, 90) := (f.2 (28, M_rows, 0, 90) (by decide)).2
theorem is_M.r_moved {h : AH} (f : is_M h) : mr h A_M 29 = some M_moved := (f.2 (29, M_moved, 0, 30) (by decide)).1
theorem is_M.s_moved {h : AH} (f : is_M h) : hs h M_moved = some (0, 30) := (f.2 (29, M_moved, 0, 30) (by decide)).2
theorem is_M.r_rowType {h : AH} (f : is_M h) : mr h A_M 30 = some M_rowType := (f.2 (30, M_rowType, 0, 3) (by decide)).1
theorem is_M.s_rowType {h : AH} (f : is_M h) : hs h M_rowType = some (0, 3) := (f.2 (30, M_rowType, 0, 3) (by decide)).2
theorem is_M.r_rowLength {h : AH} (f : is_M h) : mr h A_M 31 = some M_rowLength := (f.2 (31, M_rowLength, 0, 3) (by decide)).1
theorem is_M.s_rowLength {h : AH} (f : is_M h) : hs h M_rowLength = some (0, 3) := (f.2 (31, M_rowLength, 0, 3) (by decide)).2
theorem is_M.ext {h h1 : AH} (x : Ext h h1) (f : is_M h) : is_M h1 := ⟨x.shp f.o, fun q hq => ⟨x.rfs f.o (f.2 q hq).1, x.shp (f.2 q hq).2⟩⟩
def CF : List (Nat × Nat × Nat × Nat) := [(0, A_posets, 3, 4), (1, A_formulas, 4, 6), (2, A_rows, 5, 3), (4, A_gens, 0, 4), (8, A_dOrd, 0, 6), (9, A_dSig, 0, 60)]
def is_C (h : AH) : Prop := hs h A_x = some (16, 10) ∧ (∀ q ∈ CF, mr h A_x q.1 = some q.2.1 ∧ hs h q.2.1 = some (q.2.2.1, q.2.2.2)) ∧ mr h A_x 3 = some A_text ∧ is_T h A_text ∧ mr h A_x 6 = some A_sub ∧ is_A h A_sub ∧ (∀ i, i < 4 → mr h A_posets i = some (aP i) ∧ is_P h (aP i)) ∧ (∀ i, i < 6 → mr h A_formulas i = some (aF i) ∧ is_F h (aF i)) ∧ (∀ i, i < 3 → mr h A_rows i = some (aR i) ∧ is_R h (aR i))
theorem is_C.o {h : AH} (f : is_C h) : hs h A_x = some (16, 10) := f.1
theorem is_C.r_posets {h : AH} (f : is_C h) : mr h A_x 0 = some A_posets := (f.2.1 (0, A_posets, 3, 4) (by decide)).1
theorem is_C.s_posets {h : AH} (f : is_C h) : hs h A_posets = some (3, 4) := (f.2.1 (0, A_posets, 3, 4) (by decide)).2
theorem is_C.r_formulas {h : AH} (f : is_C h) : mr h A_x 1 = some A_formulas := (f.2.1 (1, A_formulas, 4, 6) (by decide)).1
theorem is_C.s_formulas {h : AH} (f : is_C h) : hs h A_formulas = some (4, 6) := (f.2.1 (1, A_formulas, 4, 6) (by decide)).2
theorem is_C.r_rows {h : AH} (f : is_C h) : mr h A_x 2 = some A_rows := (f.2.1 (2, A_rows, 5, 3) (by decide)).1
theorem is_C.s_rows {h : AH} (f : is_C h) : hs h A_rows = some (5, 3) := (f.2.1 (2, A_rows, 5, 3) (by decide)).2
theorem is_C.r_generators {h : AH} (f : is_C h) : mr h A_x 4 = some A_gens := (f.2.1 (4, A_gens, 0, 4) (by decide)).1
theorem is_C.s_generators {h : AH} (f : is_C h) : hs h A_gens = some (0, 4) := (f.2.1 (4, A_gens, 0, 4) (by decide)).2
theorem is_C.r_draftOrder {h : AH} (f : is_C h) : mr h A_x 8 = some A_dOrd := (f.2.1 (8, A_dOrd, 0, 6) (by decide)).1
theorem is_C.s_draftOrder {h : AH} (f : is_C h) : hs h A_dOrd = some (0, 6) := (f.2.1 (8, A_dOrd, 0, 6) (by decide)).2
theorem is_C.r_draftSigns {h : AH} (f : is_C h) : mr h A_x 9 = some A_dSig := (f.2.1 (9, A_dSig, 0, 60) (by decide)).1
theorem is_C.s_draftSigns {h : AH} (f : is_C h) : hs h A_dSig = some (0, 60) := (f.2.1 (9, A_dSig, 0, 60) (by decide)).2
theorem is_C.r_text {h : AH} (f : is_C h) : mr h A_x 3 = some A_text := f.2.2.1
theorem is_C.p_text {h : AH} (f : is_C h) : is_T h A_text := f.2.2.2.1
theorem is_C.r_subalgebra {h : AH} (f : is_C h) : mr h A_x 6 = some A_sub := f.2.2.2.2.1
theorem is_C.p_subalgebra {h : AH} (f : is_C h) : is_A h A_sub := f.2.2.2.2.2.1
theorem is_C.ps {h : AH} (f : is_C h) : ∀ i, i < 4 → mr h A_posets i = some (aP i) ∧ is_P h (aP i) := f.2.2.2.2.2.2.1
theorem is_C.fs {h : AH} (f : is_C h) : ∀ i, i < 6 → mr h A_formulas i = some (aF i) ∧ is_F h (aF i) := f.2.2.2.2.2.2.2.1
theorem is_C.rs {h : AH} (f : is_C h) : ∀ i, i < 3 → mr h A_rows i = some (aR i) ∧ is_R h (aR i) := f.2.2.2.2.2.2.2.2
theorem is_C.ext {h h1 : AH} (x : Ext h h1) (f : is_C h) : is_C h1 := ⟨x.shp f.o, fun q hq => ⟨x.rfs f.o (f.2.1 q hq).1, x.shp (f.2.1 q hq).2⟩, x.rfs f.o f.r_text, f.p_text.ext x, x.rfs f.o f.r_subalgebra, f.p_subalgebra.ext x, fun i hi => ⟨x.rfs f.s_posets (f.ps i hi).1, (f.ps i hi).2.ext x⟩, fun i hi => ⟨x.rfs f.s_formulas (f.fs i hi).1, (f.fs i hi).2.ext x⟩, fun i hi => ⟨x.rfs f.s_rows (f.rs i hi).1, (f.rs i hi).2.ext x⟩⟩
theorem asI.mono {K K' : Int32 → AH → Prop} {v : Value} {h : AH} (hk : ∀ x, K x h → K' x h) (a : asI K v h) : asI K' v h := by
  cases v <;> first | exact hk _ a | exact a
theorem asL.mono {K K' : Int64 → AH → Prop} {v : Value} {h : AH} (hk : ∀ x, K x h → K' x h) (a : asL K v h) : asL K' v h := by
  cases v <;> first | exact hk _ a | exact a
theorem asV.mono {K K' : AH → Prop} {v : Value} {h : AH} (hk : K h → K' h) (a : asV K v h) : asV K' v h := by
  cases v <;> first | exact hk a | exact a
theorem asR.mono {K K' : Option Nat → AH → Prop} {v : Value} {h : AH} (hk : ∀ x, K x h → K' x h) (a : asR K v h) : asR K' v h := by
  cases v <;> first | exact hk _ a | exact a
theorem Ev.mI {d g g' y pc : Nat} {ls st : List Value} {h : AH} {K K' : Int32 → AH → Prop} (e : Ev d g g' y pc ls st h (asI K)) (hk : ∀ x h1, Ext h h1 → K x h1 → K' x h1) : Ev d g g' y pc ls st h (asI K') := e.mono fun _ h1 x => asI.mono fun z => hk z h1 x
theorem Ev.mL {d g g' y pc : Nat} {ls st : List Value} {h : AH} {K K' : Int64 → AH → Prop} (e : Ev d g g' y pc ls st h (asL K)) (hk : ∀ x h1, Ext h h1 → K x h1 → K' x h1) : Ev d g g' y pc ls st h (asL K') := e.mono fun _ h1 x => asL.mono fun z => hk z h1 x
theorem Ev.mV {d g g' y pc : Nat} {ls st : List Value} {h : AH} {K K' : AH → Prop} (e : Ev d g g' y pc ls st h (asV K)) (hk : ∀ h1, Ext h h1 → K h1 → K' h1) : Ev d g g' y pc ls st h (asV K') := e.mono fun _ h1 x => asV.mono (hk h1 x)
theorem Ev.mR {d g g' y pc : Nat} {ls st : List Value} {h : AH} {K K' : Option Nat → AH → Prop} (e : Ev d g g' y pc ls st h (asR K)) (hk : ∀ x h1, Ext h h1 → K x h1 → K' x h1) : Ev d g g' y pc ls st h (asR K') := e.mono fun _ h1 x => asR.mono fun z => hk z h1 x
theorem hs_hn (h : AH) (t n : Nat) : hs (hn h t n) h.1.length = some (t, n) := by
  show (h.1 ++ [(t, n)])[h.1.length]? = _
  simp

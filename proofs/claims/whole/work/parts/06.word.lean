def mt0 : Mt := (⟨"", "", ""⟩, ⟨#[]⟩, 0, none, 0, [])
def mn (y : Nat) : MethodName := (Ms.getD y mt0).1
def ow (i : Nat) : String := owN.getD i ""
def fT (r : Nat) : String × String × String × Bool := match vwCl[r / 256]? with
  | some c => c.2.1 (r / 4 % 64)
  | none => ("", "", "", true)
def tabAt (p : Nat × Nat) : Option Cond := match p.1 with
  | 0 => (k2_sels lw_privs)[p.2]?
  | 1 => tables_1_1[p.2]?
  | 2 => tables_1_2[p.2]?
  | 3 => tables_1_3[p.2]?
  | 4 => tables_1_4[p.2]?
  | 5 => tables_1_5[p.2]?
  | _ => tables_1_6[p.2]?
theorem tabAt_in {p : Nat × Nat} {w : Cond} (h : tabAt p = some w) : w ∈ lw_tbl := by
  unfold lw_tbl tables_1
  obtain ⟨i, j⟩ := p
  unfold tabAt at h
  simp only [List.mem_append]
  split at h <;> have h := List.mem_of_getElem? h <;> simp only [h, true_or, or_true]
theorem pl_in {α : Type} {l : List α} {f : α → Cond} {ps : List (Nat × Nat)} (h : l.map (fun q => some (f q)) = ps.map tabAt) : ∀ q ∈ l, f q ∈ lw_tbl := by
  intro q hq
  have h1 : some (f q) ∈ l.map (fun q => some (f q)) := List.mem_map.mpr ⟨q, hq, rfl⟩
  rw [h] at h1
  obtain ⟨p, -, hp⟩ := List.mem_map.mp h1
  exact tabAt_in hp
set_option maxRecDepth 100000 in
theorem wd_code_0 : ∀ q ∈ ((Ms.drop 0).take 16), Cond.code q.1 q.2.1 q.2.2.1 q.2.2.2.1 ∈ lw_tbl := pl_in (f := fun (q : Mt) => Cond.code q.1 q.2.1 q.2.2.1 q.2.2.2.1) (ps := [(1, 181), (2, 199), (2, 207), (2, 218), (2, 237), (3, 1), (3, 6), (3, 21), (3, 25), (3, 30), (3, 37), (3, 45), (3, 122), (3, 154), (3, 158), (3, 162)]) rfl
set_option maxRecDepth 100000 in
theorem wd_code_16 : ∀ q ∈ ((Ms.drop 16).take 16), Cond.code q.1 q.2.1 q.2.2.1 q.2.2.2.1 ∈ lw_tbl := pl_in (f := fun (q : Mt) => Cond.code q.1 q.2.1 q.2.2.1 q.2.2.2.1) (ps := [(3, 167), (3, 171), (3, 180), (1, 107), (1, 112), (1, 116), (1, 120), (1, 124), (1, 128), (1, 132), (1, 142), (2, 18), (2, 30), (2, 34), (2, 38), (2, 42)]) rfl
set_option maxRecDepth 100000 in
theorem wd_code_32 : ∀ q ∈ ((Ms.drop 32).take 16), Cond.code q.1 q.2.1 q.2.2.1 q.2.2.2.1 ∈ lw_tbl := pl_in (f := fun (q : Mt) => Cond.code q.1 q.2.1 q.2.2.1 q.2.2.2.1) (ps := [(2, 56), (2, 64), (2, 68), (2, 72), (2, 79), (2, 83), (2, 87), (2, 91), (2, 95), (2, 99), (2, 112), (2, 129), (2, 133), (3, 57), (3, 65), (1, 201)]) rfl
set_option maxRecDepth 100000 in
theorem wd_code_48 : ∀ q ∈ ((Ms.drop 48).take 16), Cond.code q.1 q.2.1 q.2.2.1 q.2.2.2.1 ∈ lw_tbl := pl_in (f := fun (q : Mt) => Cond.code q.1 q.2.1 q.2.2.1 q.2.2.2.1) (ps := [(3, 218), (3, 226), (3, 230), (3, 234), (4, 7), (1, 69), (3, 81), (3, 85), (3, 89), (3, 93), (3, 98), (3, 102), (3, 106), (1, 30), (2, 161), (2, 165)]) rfl
set_option maxRecDepth 100000 in
theorem wd_code_64 : ∀ q ∈ ((Ms.drop 64).take 16), Cond.code q.1 q.2.1 q.2.2.1 q.2.2.2.1 ∈ lw_tbl := pl_in (f := fun (q : Mt) => Cond.code q.1 q.2.1 q.2.2.1 q.2.2.2.1) (ps := [(2, 168), (2, 172), (2, 176), (2, 180), (2, 184), (2, 188), (2, 192), (2, 195), (1, 16), (2, 10), (2, 14), (2, 22), (2, 26), (2, 46), (2, 52), (2, 60)]) rfl
set_option maxRecDepth 100000 in
theorem wd_code_80 : ∀ q ∈ ((Ms.drop 80).take 16), Cond.code q.1 q.2.1 q.2.2.1 q.2.2.2.1 ∈ lw_tbl := pl_in (f := fun (q : Mt) => Cond.code q.1 q.2.1 q.2.2.1 q.2.2.2.1) (ps := [(2, 104), (2, 108), (2, 116), (2, 121), (2, 125), (2, 137), (2, 141), (2, 145), (2, 149), (2, 153), (2, 157), (2, 203), (2, 211), (2, 214), (2, 222), (2, 229)]) rfl
set_option maxRecDepth 100000 in
theorem wd_code_96 : ∀ q ∈ ((Ms.drop 96).take 16), Cond.code q.1 q.2.1 q.2.2.1 q.2.2.2.1 ∈ lw_tbl := pl_in (f := fun (q : Mt) => Cond.code q.1 q.2.1 q.2.2.1 q.2.2.2.1) (ps := [(2, 233), (3, 10), (3, 14), (3, 17), (3, 34), (3, 41), (3, 49), (3, 53), (3, 61), (3, 69), (3, 73), (3, 77), (3, 110), (3, 117), (3, 150), (3, 176)]) rfl
set_option maxRecDepth 100000 in
theorem wd_code_112 : ∀ q ∈ ((Ms.drop 112).take 16), Cond.code q.1 q.2.1 q.2.2.1 q.2.2.2.1 ∈ lw_tbl := pl_in (f := fun (q : Mt) => Cond.code q.1 q.2.1 q.2.2.1 q.2.2.2.1) (ps := [(3, 184), (3, 188), (3, 192), (3, 195), (3, 199), (3, 202), (3, 206), (3, 210), (3, 214), (3, 222), (3, 238), (4, 3), (4, 11), (4, 18), (4, 22), (4, 27)]) rfl
set_option maxRecDepth 100000 in
theorem wd_code_128 : ∀ q ∈ ((Ms.drop 128).take 16), Cond.code q.1 q.2.1 q.2.2.1 q.2.2.2.1 ∈ lw_tbl := pl_in (f := fun (q : Mt) => Cond.code q.1 q.2.1 q.2.2.1 q.2.2.2.1) (ps := [(4, 32), (4, 36), (4, 140), (4, 143), (4, 147), (4, 151), (4, 155), (4, 159), (4, 163), (4, 167), (4, 170), (4, 174), (4, 178), (4, 182), (4, 186), (4, 190)]) rfl
set_option maxRecDepth 100000 in
theorem wd_code_144 : ∀ q ∈ ((Ms.drop 144).take 16), Cond.code q.1 q.2.1 q.2.2.1 q.2.2.2.1 ∈ lw_tbl := pl_in (f := fun (q : Mt) => Cond.code q.1 q.2.1 q.2.2.1 q.2.2.2.1) (ps := [(4, 194), (4, 198), (4, 202), (4, 206), (4, 210), (4, 214), (4, 218), (4, 222), (4, 226), (4, 230), (4, 234), (4, 238), (5, 2), (5, 6), (5, 10), (5, 14)]) rfl
set_option maxRecDepth 100000 in
theorem wd_code_160 : ∀ q ∈ ((Ms.drop 160).take 16), Cond.code q.1 q.2.1 q.2.2.1 q.2.2.2.1 ∈ lw_tbl := pl_in (f := fun (q : Mt) => Cond.code q.1 q.2.1 q.2.2.1 q.2.2.2.1) (ps := [(5, 20), (5, 24), (5, 27), (5, 31), (5, 35), (5, 39), (5, 42), (5, 46), (5, 50), (5, 54), (5, 58), (5, 61), (5, 65), (5, 69), (5, 73), (5, 76)]) rfl
set_option maxRecDepth 100000 in
theorem wd_code_176 : ∀ q ∈ ((Ms.drop 176).take 16), Cond.code q.1 q.2.1 q.2.2.1 q.2.2.2.1 ∈ lw_tbl := pl_in (f := fun (q : Mt) => Cond.code q.1 q.2.1 q.2.2.1 q.2.2.2.1) (ps := [(5, 80), (5, 84), (5, 88), (5, 92), (5, 96), (5, 100), (5, 104), (5, 108), (5, 112), (5, 116), (5, 120), (5, 124), (5, 128), (5, 132), (5, 136), (5, 140)]) rfl
set_option maxRecDepth 100000 in
theorem wd_code_192 : ∀ q ∈ ((Ms.drop 192).take 16), Cond.code q.1 q.2.1 q.2.2.1 q.2.2.2.1 ∈ lw_tbl := pl_in (f := fun (q : Mt) => Cond.code q.1 q.2.1 q.2.2.1 q.2.2.2.1) (ps := [(5, 144), (5, 148), (5, 153), (5, 157), (5, 161), (5, 165), (5, 169), (5, 173), (5, 181), (5, 185), (5, 189), (5, 193), (5, 197), (5, 201), (5, 205), (5, 209)]) rfl
set_option maxRecDepth 100000 in
theorem wd_code_208 : ∀ q ∈ ((Ms.drop 208).take 16), Cond.code q.1 q.2.1 q.2.2.1 q.2.2.2.1 ∈ lw_tbl := pl_in (f := fun (q : Mt) => Cond.code q.1 q.2.1 q.2.2.1 q.2.2.2.1) (ps := [(5, 213), (5, 217), (5, 221), (5, 225), (5, 229), (5, 233), (5, 237), (6, 0), (6, 5), (6, 9), (6, 13), (6, 18), (6, 22), (6, 26), (6, 31), (1, 135)]) rfl
theorem wd_code : ∀ (y : Nat) (q : Mt), y < 224 → Ms[y]? = some q → Cond.code q.1 q.2.1 q.2.2.1 q.2.2.2.1 ∈ lw_tbl := by
  intro y q hy hq
  by_cases h0 : y < 16
  · exact wd_code_0 q (List.mem_of_getElem? (i := y - 0) (by rw [List.getElem?_take_of_lt (by omega), List.getElem?_drop, show 0 + (y - 0) = y by omega]; exact hq))
  by_cases h16 : y < 32
  · exact wd_code_16 q (List.mem_of_getElem? (i := y - 16) (by rw [List.getElem?_take_of_lt (by omega), List.getElem?_drop, show 16 + (y - 16) = y by omega]; exact hq))
  by_cases h32 : y < 48
  · exact wd_code_32 q (List.mem_of_getElem? (i := y - 32) (by rw [List.getElem?_take_of_lt (by omega), List.getElem?_drop, show 32 + (y - 32) = y by omega]; exact hq))
  by_cases h48 : y < 64
  · exact wd_code_48 q (List.mem_of_getElem? (i := y - 48) (by rw [List.getElem?_take_of_lt (by omega), List.getElem?_drop, show 48 + (y - 48) = y by omega]; exact hq))
  by_cases h64 : y < 80
  · exact wd_code_64 q (List.mem_of_getElem? (i := y - 64) (by rw [List.getElem?_take_of_lt (by omega), List.getElem?_drop, show 64 + (y - 64) = y by omega]; exact hq))
  by_cases h80 : y < 96
  · exact wd_code_80 q (List.mem_of_getElem? (i := y - 80) (by rw [List.getElem?_take_of_lt (by omega), List.getElem?_drop, show 80 + (y - 80) = y by omega]; exact hq))
  by_cases h96 : y < 112
  · exact wd_code_96 q (List.mem_of_getElem? (i := y - 96) (by rw [List.getElem?_take_of_lt (by omega), List.getElem?_drop, show 96 + (y - 96) = y by omega]; exact hq))
  by_cases h112 : y < 128
  · exact wd_code_112 q (List.mem_of_getElem? (i := y - 112) (by rw [List.getElem?_take_of_lt (by omega), List.getElem?_drop, show 112 + (y - 112) = y by omega]; exact hq))
  by_cases h128 : y < 144
  · exact wd_code_128 q (List.mem_of_getElem? (i := y - 128) (by rw [List.getElem?_take_of_lt (by omega), List.getElem?_drop, show 128 + (y - 128) = y by omega]; exact hq))
  by_cases h144 : y < 160
  · exact wd_code_144 q (List.mem_of_getElem? (i := y - 144) (by rw [List.getElem?_take_of_lt (by omega), List.getElem?_drop, show 144 + (y - 144) = y by omega]; exact hq))
  by_cases h160 : y < 176
  · exact wd_code_160 q (List.mem_of_getElem? (i := y - 160) (by rw [List.getElem?_take_of_lt (by omega), List.getElem?_drop, show 160 + (y - 160) = y by omega]; exact hq))
  by_cases h176 : y < 192
  · exact wd_code_176 q (List.mem_of_getElem? (i := y - 176) (by rw [List.getElem?_take_of_lt (by omega), List.getElem?_drop, show 176 + (y - 176) = y by omega]; exact hq))
  by_cases h192 : y < 208
  · exact wd_code_192 q (List.mem_of_getElem? (i := y - 192) (by rw [List.getElem?_take_of_lt (by omega), List.getElem?_drop, show 192 + (y - 192) = y by omega]; exact hq))
  by_cases h208 : y < 224
  · exact wd_code_208 q (List.mem_of_getElem? (i := y - 208) (by rw [List.getElem?_take_of_lt (by omega), List.getElem?_drop, show 208 + (y - 208) = y by omega]; exact hq))
  omega
theorem wd_linkV : ∀ q ∈ calV, Cond.methodLink (ow q.1) q.2.1 (mn (q.2.2 / 32768)) ∈ lw_tbl := pl_in (f := fun (q : Nat × Nat × Nat) => Cond.methodLink (ow q.1) q.2.1 (mn (q.2.2 / 32768))) (ps := [(1, 109), (1, 113), (1, 117), (1, 121), (1, 125), (1, 129), (1, 139), (2, 7), (2, 11), (2, 15), (2, 19), (2, 23), (2, 27), (2, 31), (2, 35), (2, 39), (2, 43), (2, 47), (2, 48), (2, 49), (2, 53), (2, 57), (2, 61), (2, 65), (2, 69), (2, 76), (2, 80), (2, 84), (2, 88), (2, 92), (2, 96), (2, 100), (2, 101), (2, 105), (2, 109), (2, 113), (2, 117), (2, 118), (2, 122), (2, 126), (2, 130), (2, 134), (2, 138), (2, 142), (2, 146), (2, 150), (2, 154), (2, 158), (2, 162), (2, 169), (2, 173), (2, 177), (2, 181), (2, 185), (2, 189), (2, 196), (2, 200), (2, 204), (2, 208), (2, 215), (2, 219), (2, 226), (2, 230), (2, 234), (2, 238), (3, 2), (3, 3), (3, 7), (3, 11), (3, 18), (3, 22), (3, 26), (3, 27), (3, 31), (3, 38), (3, 42), (3, 46), (3, 50), (3, 54), (3, 58), (3, 62), (3, 66), (3, 70), (3, 74), (3, 78), (3, 82), (3, 86), (3, 90), (3, 94), (3, 95), (3, 99), (3, 103), (3, 107), (3, 114), (3, 151), (3, 155), (3, 159), (3, 163), (3, 164), (3, 168), (3, 172), (3, 173), (3, 177), (3, 181), (3, 185), (3, 189), (3, 196), (3, 203), (3, 207), (3, 211), (3, 215), (3, 219), (3, 223), (3, 227), (3, 231), (3, 235), (4, 0), (4, 4), (4, 8), (4, 15), (4, 19), (4, 29), (4, 33), (4, 137), (4, 148), (4, 152), (4, 156), (4, 160), (4, 164), (4, 171), (4, 175), (4, 179), (4, 183), (4, 187), (4, 191), (4, 195), (4, 199), (4, 203), (4, 207), (4, 211), (4, 215), (4, 219), (4, 223), (4, 227), (4, 231), (4, 235), (4, 239), (5, 3), (5, 7), (5, 11), (5, 17), (5, 21), (5, 28), (5, 32), (5, 36), (5, 43), (5, 47), (5, 51), (5, 55), (5, 62), (5, 66), (5, 70), (5, 77), (5, 81), (5, 85), (5, 89), (5, 93), (5, 97), (5, 101), (5, 105), (5, 109), (5, 113), (5, 117), (5, 121), (5, 125), (5, 129), (5, 133), (5, 137), (5, 141), (5, 145), (5, 150), (5, 154), (5, 158), (5, 162), (5, 166), (5, 170), (5, 178), (5, 182), (5, 186), (5, 190), (5, 194), (5, 198), (5, 202), (5, 206), (5, 210), (5, 214), (5, 218), (5, 222), (5, 226), (5, 230), (5, 234), (6, 2), (6, 6), (6, 10), (6, 15), (6, 19), (6, 23), (6, 27), (6, 28)]) (by decide +kernel)
theorem wd_instV : ∀ q ∈ calV, Cond.instanceMethod (mn (q.2.2 / 32768)) ∈ lw_tbl := pl_in (f := fun (q : Nat × Nat × Nat) => Cond.instanceMethod (mn (q.2.2 / 32768))) (ps := [(1, 111), (1, 115), (1, 119), (1, 122), (1, 127), (1, 130), (1, 141), (2, 8), (2, 13), (2, 16), (2, 20), (2, 24), (2, 28), (2, 32), (2, 36), (2, 41), (2, 44), (2, 32), (1, 122), (2, 50), (2, 54), (2, 58), (2, 62), (2, 67), (2, 71), (2, 77), (2, 82), (2, 85), (2, 89), (2, 93), (2, 98), (2, 36), (2, 102), (2, 106), (2, 110), (2, 114), (1, 130), (2, 119), (2, 124), (2, 127), (2, 131), (2, 135), (2, 139), (2, 143), (2, 147), (2, 151), (2, 156), (2, 159), (2, 164), (2, 171), (2, 175), (2, 179), (2, 183), (2, 187), (2, 191), (2, 197), (2, 201), (2, 205), (2, 209), (2, 216), (2, 221), (2, 227), (2, 231), (2, 235), (3, 0), (1, 130), (2, 131), (3, 8), (3, 12), (3, 19), (3, 24), (2, 216), (3, 28), (3, 32), (3, 39), (3, 43), (3, 47), (3, 51), (3, 55), (3, 59), (3, 63), (3, 67), (3, 71), (3, 75), (3, 79), (3, 83), (3, 88), (3, 92), (2, 127), (3, 97), (3, 100), (3, 105), (3, 108), (3, 115), (3, 152), (3, 157), (3, 161), (1, 130), (3, 165), (3, 170), (1, 122), (3, 174), (3, 178), (3, 182), (3, 186), (3, 190), (3, 197), (3, 204), (3, 208), (3, 213), (3, 216), (3, 220), (3, 224), (3, 228), (3, 232), (3, 236), (4, 1), (4, 5), (4, 9), (4, 16), (4, 20), (4, 31), (4, 35), (4, 138), (4, 149), (4, 153), (4, 158), (4, 162), (4, 166), (4, 172), (4, 176), (4, 180), (4, 185), (4, 189), (4, 193), (4, 197), (4, 201), (4, 204), (4, 209), (4, 213), (4, 217), (4, 220), (4, 225), (4, 228), (4, 232), (4, 237), (5, 0), (5, 4), (5, 9), (5, 12), (5, 18), (5, 22), (5, 30), (5, 34), (5, 38), (5, 45), (5, 49), (5, 53), (5, 57), (5, 64), (5, 67), (5, 71), (5, 78), (5, 82), (5, 87), (5, 91), (5, 94), (5, 98), (5, 103), (5, 107), (5, 111), (5, 115), (5, 119), (5, 123), (5, 126), (5, 130), (5, 134), (5, 138), (5, 142), (5, 146), (5, 151), (5, 155), (5, 160), (5, 164), (5, 168), (5, 171), (5, 179), (5, 184), (5, 188), (5, 192), (5, 196), (5, 200), (5, 204), (5, 207), (5, 211), (5, 215), (5, 220), (5, 223), (5, 227), (5, 231), (5, 235), (6, 3), (6, 8), (6, 11), (6, 16), (6, 20), (6, 24), (4, 153), (6, 29)]) (by decide +kernel)
theorem wd_sel : ∀ q ∈ calV, Cond.selects (mn (q.2.2 / 32768)).cls (mn (q.2.2 / 32768)) (mn (q.2.2 / 32768)) ∈ lw_tbl := pl_in (f := fun (q : Nat × Nat × Nat) => Cond.selects (mn (q.2.2 / 32768)).cls (mn (q.2.2 / 32768)) (mn (q.2.2 / 32768))) (ps := [(0, 0), (0, 1), (0, 2), (1, 123), (0, 3), (1, 131), (0, 4), (2, 9), (0, 5), (2, 17), (2, 21), (2, 25), (2, 29), (2, 33), (2, 37), (0, 6), (2, 45), (2, 33), (1, 123), (2, 51), (2, 55), (2, 59), (2, 63), (0, 7), (0, 8), (2, 78), (0, 9), (2, 86), (2, 90), (2, 94), (0, 10), (2, 37), (2, 103), (2, 107), (2, 111), (2, 115), (1, 131), (2, 120), (0, 11), (2, 128), (2, 132), (2, 136), (2, 140), (2, 144), (2, 148), (2, 152), (0, 12), (2, 160), (0, 13), (0, 14), (0, 15), (0, 16), (0, 17), (0, 18), (0, 19), (2, 198), (2, 202), (2, 206), (2, 210), (2, 217), (0, 20), (2, 228), (2, 232), (2, 236), (0, 21), (1, 131), (2, 132), (3, 9), (3, 13), (3, 20), (0, 22), (2, 217), (3, 29), (3, 33), (3, 40), (3, 44), (3, 48), (3, 52), (3, 56), (3, 60), (3, 64), (3, 68), (3, 72), (3, 76), (3, 80), (3, 84), (0, 23), (0, 24), (2, 128), (0, 25), (3, 101), (0, 26), (3, 109), (3, 116), (3, 153), (0, 27), (0, 28), (1, 131), (3, 166), (0, 29), (1, 123), (3, 175), (3, 179), (3, 183), (3, 187), (3, 191), (3, 198), (3, 205), (3, 209), (0, 30), (3, 217), (3, 221), (3, 225), (3, 229), (3, 233), (3, 237), (4, 2), (4, 6), (4, 10), (4, 17), (4, 21), (0, 31), (0, 32), (4, 139), (4, 150), (4, 154), (0, 33), (0, 34), (0, 35), (4, 173), (4, 177), (4, 181), (0, 36), (0, 37), (0, 38), (0, 39), (0, 40), (4, 205), (0, 41), (0, 42), (0, 43), (4, 221), (0, 44), (4, 229), (4, 233), (0, 45), (5, 1), (5, 5), (0, 46), (5, 13), (5, 19), (5, 23), (0, 47), (0, 48), (0, 49), (0, 50), (0, 51), (0, 52), (0, 53), (0, 54), (5, 68), (5, 72), (5, 79), (5, 83), (0, 55), (0, 56), (5, 95), (5, 99), (0, 57), (0, 58), (0, 59), (0, 60), (0, 61), (0, 62), (5, 127), (5, 131), (5, 135), (5, 139), (5, 143), (5, 147), (5, 152), (5, 156), (0, 63), (0, 64), (0, 65), (5, 172), (5, 180), (0, 66), (0, 67), (0, 68), (0, 69), (0, 70), (0, 71), (5, 208), (5, 212), (5, 216), (0, 72), (5, 224), (5, 228), (5, 232), (5, 236), (6, 4), (0, 73), (6, 12), (6, 17), (6, 21), (6, 25), (4, 154), (6, 30)]) (by decide +kernel)
theorem wd_iniV : ∀ q ∈ calV, Cond.initialized (mn (q.2.2 / 32768)).cls ∈ lw_tbl := pl_in (f := fun (q : Nat × Nat × Nat) => Cond.initialized (mn (q.2.2 / 32768)).cls) (ps := [(1, 4), (1, 4), (1, 4), (1, 4), (1, 4), (1, 4), (1, 4), (1, 1), (1, 1), (1, 4), (1, 1), (1, 1), (1, 4), (1, 4), (1, 4), (1, 4), (1, 1), (1, 4), (1, 4), (1, 1), (1, 4), (1, 1), (1, 4), (1, 4), (1, 4), (1, 4), (1, 4), (1, 4), (1, 4), (1, 4), (1, 4), (1, 4), (1, 1), (1, 1), (1, 4), (1, 1), (1, 4), (1, 1), (1, 1), (1, 4), (1, 4), (1, 1), (1, 1), (1, 1), (1, 1), (1, 1), (1, 1), (1, 2), (1, 2), (1, 2), (1, 2), (1, 2), (1, 2), (1, 2), (1, 2), (1, 6), (1, 1), (1, 6), (1, 1), (1, 6), (1, 1), (1, 1), (1, 1), (1, 6), (1, 6), (1, 4), (1, 4), (1, 1), (1, 1), (1, 6), (1, 6), (1, 6), (1, 6), (1, 1), (1, 1), (1, 6), (1, 1), (1, 1), (1, 4), (1, 1), (1, 4), (1, 1), (1, 1), (1, 1), (1, 3), (1, 3), (1, 3), (1, 3), (1, 4), (1, 3), (1, 3), (1, 3), (1, 1), (1, 1), (1, 11), (1, 11), (1, 11), (1, 4), (1, 11), (1, 11), (1, 4), (1, 1), (1, 11), (1, 1), (1, 1), (1, 1), (1, 1), (1, 1), (1, 1), (1, 1), (1, 7), (1, 1), (1, 7), (1, 7), (1, 7), (1, 1), (1, 1), (1, 7), (1, 1), (1, 1), (1, 1), (1, 8), (1, 8), (1, 8), (1, 8), (1, 8), (1, 8), (1, 8), (1, 8), (1, 8), (1, 8), (1, 8), (1, 8), (1, 8), (1, 8), (1, 8), (1, 8), (1, 8), (1, 8), (1, 8), (1, 8), (1, 8), (1, 8), (1, 8), (1, 8), (1, 8), (1, 8), (1, 8), (1, 8), (1, 8), (1, 8), (1, 8), (1, 8), (1, 8), (1, 8), (1, 8), (1, 8), (1, 8), (1, 8), (1, 8), (1, 8), (1, 8), (1, 8), (1, 8), (1, 8), (1, 8), (1, 8), (1, 8), (1, 8), (1, 8), (1, 8), (1, 8), (1, 8), (1, 8), (1, 8), (1, 8), (1, 8), (1, 8), (1, 8), (1, 8), (1, 8), (1, 8), (1, 8), (1, 8), (1, 8), (1, 8), (1, 8), (1, 8), (1, 8), (1, 8), (1, 8), (1, 8), (1, 8), (1, 8), (1, 8), (1, 8), (1, 8), (1, 8), (1, 8), (1, 8), (1, 8), (1, 8), (1, 8), (1, 8), (1, 8), (1, 8), (1, 8), (1, 8), (1, 8)]) (by decide +kernel)
theorem wd_linkS : ∀ q ∈ calS, Cond.methodLink (ow q.1) q.2.1 (mn (q.2.2 / 32768)) ∈ lw_tbl := pl_in (f := fun (q : Nat × Nat × Nat) => Cond.methodLink (ow q.1) q.2.1 (mn (q.2.2 / 32768))) (ps := [(1, 133), (2, 166), (2, 193), (2, 212), (3, 4), (3, 15), (3, 35), (3, 148), (3, 193), (3, 200), (4, 141), (4, 145), (4, 168), (5, 25), (5, 40), (5, 59), (5, 74), (5, 238)]) (by decide +kernel)
theorem wd_stat : ∀ q ∈ calS, Cond.static (mn (q.2.2 / 32768)) ∈ lw_tbl := pl_in (f := fun (q : Nat × Nat × Nat) => Cond.static (mn (q.2.2 / 32768))) (ps := [(1, 134), (2, 167), (2, 194), (2, 213), (3, 5), (3, 16), (3, 36), (3, 149), (3, 194), (3, 201), (4, 142), (4, 146), (4, 169), (5, 26), (5, 41), (5, 60), (5, 75), (5, 239)]) (by decide +kernel)
theorem wd_iniS : ∀ q ∈ calS, Cond.initialized (mn (q.2.2 / 32768)).cls ∈ lw_tbl := pl_in (f := fun (q : Nat × Nat × Nat) => Cond.initialized (mn (q.2.2 / 32768)).cls) (ps := [(1, 5), (1, 2), (1, 2), (1, 1), (1, 6), (1, 1), (1, 6), (1, 1), (1, 1), (1, 1), (1, 8), (1, 8), (1, 8), (1, 8), (1, 8), (1, 8), (1, 8), (1, 8)]) (by decide +kernel)
theorem wd_linkI : ∀ q ∈ calI, Cond.methodLink (ow q.1) q.2.1 (mn (q.2.2 / 32768)) ∈ lw_tbl := pl_in (f := fun (q : Nat × Nat × Nat) => Cond.methodLink (ow q.1) q.2.1 (mn (q.2.2 / 32768))) (ps := [(1, 14), (1, 105), (3, 120), (4, 25)]) (by decide +kernel)
theorem wd_instI : ∀ q ∈ calI, Cond.instanceMethod (mn (q.2.2 / 32768)) ∈ lw_tbl := pl_in (f := fun (q : Nat × Nat × Nat) => Cond.instanceMethod (mn (q.2.2 / 32768))) (ps := [(1, 15), (1, 106), (3, 121), (4, 26)]) (by decide +kernel)
theorem wd_iniI : ∀ q ∈ calI, Cond.initialized (mn (q.2.2 / 32768)).cls ∈ lw_tbl := pl_in (f := fun (q : Nat × Nat × Nat) => Cond.initialized (mn (q.2.2 / 32768)).cls) (ps := [(1, 1), (1, 4), (1, 11), (1, 8)]) (by decide +kernel)
theorem wd_nest : ∀ q ∈ nesT, Cond.methodLinkNest (ow q.1) q.2.1 (mn (q.2.2 / 32768)) "ImplicationAlgebras" ∈ lw_tbl := pl_in (f := fun (q : Nat × Nat × Nat) => Cond.methodLinkNest (ow q.1) q.2.1 (mn (q.2.2 / 32768)) "ImplicationAlgebras") (ps := [(1, 28), (1, 67), (1, 179), (1, 199)]) (by decide +kernel)
theorem wd_nestI : ∀ q ∈ nesT, Cond.instanceMethod (mn (q.2.2 / 32768)) ∈ lw_tbl := pl_in (f := fun (q : Nat × Nat × Nat) => Cond.instanceMethod (mn (q.2.2 / 32768))) (ps := [(1, 29), (1, 68), (1, 180), (1, 200)]) (by decide +kernel)
theorem wd_nestN : ∀ q ∈ nesT, Cond.initialized (mn (q.2.2 / 32768)).cls ∈ lw_tbl := pl_in (f := fun (q : Nat × Nat × Nat) => Cond.initialized (mn (q.2.2 / 32768)).cls) (ps := [(1, 2), (1, 3), (1, 6), (1, 7)]) (by decide +kernel)
theorem wd_fld : ∀ q ∈ fldT, Cond.fieldLink (ow q.1) q.2.1 (fT q.2.2).1 (fT q.2.2).2.1 (fT q.2.2).2.2.1 ∈ lw_tbl := pl_in (f := fun (q : Nat × Nat × Nat) => Cond.fieldLink (ow q.1) q.2.1 (fT q.2.2).1 (fT q.2.2).2.1 (fT q.2.2).2.2.1) (ps := [(1, 32), (1, 33), (1, 34), (1, 35), (1, 36), (1, 37), (1, 38), (1, 39), (1, 40), (1, 41), (1, 42), (1, 43), (1, 44), (1, 71), (1, 72), (1, 73), (1, 74), (1, 75), (1, 76), (1, 77), (1, 78), (1, 79), (1, 80), (1, 81), (1, 82), (1, 83), (1, 84), (1, 143), (1, 144), (1, 145), (1, 146), (1, 147), (1, 148), (1, 149), (1, 150), (1, 151), (1, 152), (1, 153), (1, 154), (1, 155), (1, 156), (1, 157), (1, 158), (1, 159), (1, 160), (1, 161), (1, 162), (1, 183), (1, 184), (1, 185), (1, 186), (1, 187), (1, 188), (1, 203), (1, 204), (1, 205), (1, 206), (1, 207), (1, 208), (1, 216), (1, 217), (1, 218), (1, 219), (1, 220), (1, 221), (1, 222), (1, 223), (1, 224), (1, 225), (3, 124), (3, 125), (3, 126), (3, 127), (3, 128), (3, 129), (3, 130), (3, 131), (3, 132), (3, 133), (3, 134), (4, 37), (4, 38), (4, 39), (4, 40), (4, 41), (4, 42), (4, 43), (4, 44), (4, 45), (4, 46), (4, 47), (4, 48), (4, 49), (4, 50), (4, 51), (4, 52), (4, 53), (4, 54), (4, 55), (4, 56), (4, 57), (4, 58), (4, 59), (4, 60), (4, 61), (4, 62), (4, 63), (4, 64), (4, 65), (4, 66), (4, 67), (4, 68), (4, 69)]) (by decide +kernel)
theorem wd_cls : ∀ q ∈ clsT, Cond.classLink (ow q.1) q.2.1 (ow q.2.2) ∈ lw_tbl := pl_in (f := fun (q : Nat × Nat × Nat) => Cond.classLink (ow q.1) q.2.1 (ow q.2.2)) (ps := [(1, 12), (1, 20), (1, 22), (1, 24), (1, 26), (1, 65), (3, 118), (4, 23)]) (by decide +kernel)
theorem wd_ins : ∀ q ∈ clsT, Cond.instantiable (ow q.2.2) (lenOf q.2.2) ∈ lw_tbl := pl_in (f := fun (q : Nat × Nat × Nat) => Cond.instantiable (ow q.2.2) (lenOf q.2.2)) (ps := [(1, 13), (1, 104), (1, 178), (1, 198), (1, 27), (1, 66), (3, 119), (4, 24)]) (by decide +kernel)
theorem wd_clsN : ∀ q ∈ clsT, Cond.initialized (ow q.2.2) ∈ lw_tbl := pl_in (f := fun (q : Nat × Nat × Nat) => Cond.initialized (ow q.2.2)) (ps := [(1, 1), (1, 4), (1, 6), (1, 7), (1, 2), (1, 3), (1, 11), (1, 8)]) (by decide +kernel)
theorem wd_cst : ∀ q ∈ cstT, Cond.constant (ow q.1) q.2.1 (cI q.2.2) ∈ lw_tbl := pl_in (f := fun (q : Nat × Nat × Int) => Cond.constant (ow q.1) q.2.1 (cI q.2.2)) (ps := [(1, 136), (1, 137), (1, 138)]) (by decide +kernel)
theorem wd_csl : ∀ q ∈ csLT, Cond.constantLong (ow q.1) q.2.1 (cL q.2.2) ∈ lw_tbl := pl_in (f := fun (q : Nat × Nat × Int) => Cond.constantLong (ow q.1) q.2.1 (cL q.2.2)) (ps := [(3, 111), (3, 112), (3, 113), (3, 239), (4, 144), (5, 15), (5, 16), (5, 149), (5, 174), (5, 175), (5, 176), (5, 177), (6, 1), (6, 14)]) (by decide +kernel)
theorem wd_obj : ∀ q ∈ objT, Cond.methodLink (ow q.1) q.2.1 objectInit ∈ lw_tbl := pl_in (f := fun (q : Nat × Nat × Nat) => Cond.methodLink (ow q.1) q.2.1 objectInit) (ps := [(1, 17), (1, 31), (1, 70), (1, 108), (1, 182), (1, 202), (3, 123), (4, 28)]) (by decide +kernel)
def acpy : MethodName := ⟨"java/lang/System", "arraycopy", "(Ljava/lang/Object;ILjava/lang/Object;II)V"⟩
theorem wd_cpy : ∀ q ∈ cpyT, Cond.methodLink (ow q.1) q.2.1 acpy ∈ lw_tbl := pl_in (f := fun (q : Nat × Nat × Nat) => Cond.methodLink (ow q.1) q.2.1 acpy) (ps := [(2, 223)]) (by decide +kernel)
theorem wd_mx : ∀ q ∈ mxxT, Cond.methodLink (ow q.1) q.2.1 Lib.Math.max.name ∈ lw_tbl := pl_in (f := fun (q : Nat × Nat × Nat) => Cond.methodLink (ow q.1) q.2.1 Lib.Math.max.name) (ps := [(2, 73)]) (by decide +kernel)
theorem wd_mn : ∀ q ∈ mnnT, Cond.methodLink (ow q.1) q.2.1 Lib.Math.min.name ∈ lw_tbl := pl_in (f := fun (q : Nat × Nat × Nat) => Cond.methodLink (ow q.1) q.2.1 Lib.Math.min.name) (ps := [(4, 12)]) (by decide +kernel)
theorem wd_mxs : Cond.static Lib.Math.max.name ∈ lw_tbl := tabAt_in (p := (2, 74)) (by decide +kernel)
theorem wd_mns : Cond.static Lib.Math.min.name ∈ lw_tbl := tabAt_in (p := (4, 13)) (by decide +kernel)
theorem wd_mxc : Cond.code Lib.Math.max.name Lib.Math.max.code 2 (some .int) ∈ lw_tbl := tabAt_in (p := (2, 75)) (by decide +kernel)
theorem wd_mnc : Cond.code Lib.Math.min.name Lib.Math.min.code 2 (some .int) ∈ lw_tbl := tabAt_in (p := (4, 14)) (by decide +kernel)
theorem wd_mi : Cond.initialized "java/lang/Math" ∈ lw_tbl := tabAt_in (p := (1, 9)) (by decide +kernel)
theorem wd_oi : Cond.instanceMethod objectInit ∈ lw_tbl := tabAt_in (p := (1, 18)) (by decide +kernel)
theorem wd_oc : Cond.code objectInit ⟨#[0xb1]⟩ 1 none ∈ lw_tbl := tabAt_in (p := (1, 19)) (by decide +kernel)
theorem wd_cs : Cond.static acpy ∈ lw_tbl := tabAt_in (p := (2, 224)) (by decide +kernel)
theorem wd_cn : Cond.native acpy ∈ lw_tbl := tabAt_in (p := (2, 225)) (by decide +kernel)
theorem wd_ci : Cond.initialized "java/lang/System" ∈ lw_tbl := tabAt_in (p := (1, 10)) (by decide +kernel)
theorem wd_arr_int : Cond.arrayClass .int ∈ lw_tbl := tabAt_in (p := (1, 64)) (by decide +kernel)
theorem wd_arr_long : Cond.arrayClass .long ∈ lw_tbl := tabAt_in (p := (1, 102)) (by decide +kernel)
theorem wd_arr_boolean : Cond.arrayClass .boolean ∈ lw_tbl := tabAt_in (p := (1, 103)) (by decide +kernel)
theorem wd_ov2 : Cond.arrayOver (.object "ImplicationAlgebras$Poset") ∈ lw_tbl := tabAt_in (p := (1, 21)) (by decide +kernel)
theorem wd_ov0 : Cond.arrayOver (.object "ImplicationAlgebras$Formula") ∈ lw_tbl := tabAt_in (p := (1, 23)) (by decide +kernel)
theorem wd_ov3 : Cond.arrayOver (.object "ImplicationAlgebras$Row") ∈ lw_tbl := tabAt_in (p := (1, 25)) (by decide +kernel)
theorem wd_lay0 : ∀ w ∈ u_ws RX0 TX0 4, w ∈ lw_tbl := fun w h => by
  have h1 := pl_in (l := List.range 4) (f := u_lay RX0 TX0) (ps := [(1, 189), (1, 191), (1, 193), (1, 195)]) (by decide +kernel)
  obtain ⟨k, hk, rfl⟩ := List.mem_map.mp h
  exact h1 k hk
theorem wd_in0 : Cond.instantiable RX0 4 ∈ lw_tbl := tabAt_in (p := (1, 178)) (by decide +kernel)
theorem wd_lay1 : ∀ w ∈ u_ws RX1 TX1 6, w ∈ lw_tbl := fun w h => by
  have h1 := pl_in (l := List.range 6) (f := u_lay RX1 TX1) (ps := [(3, 135), (3, 137), (3, 139), (3, 141), (3, 143), (3, 145)]) (by decide +kernel)
  obtain ⟨k, hk, rfl⟩ := List.mem_map.mp h
  exact h1 k hk
theorem wd_in1 : Cond.instantiable RX1 6 ∈ lw_tbl := tabAt_in (p := (3, 119)) (by decide +kernel)
theorem wd_lay2 : ∀ w ∈ u_ws RX2 TX2 7, w ∈ lw_tbl := fun w h => by
  have h1 := pl_in (l := List.range 7) (f := u_lay RX2 TX2) (ps := [(1, 163), (1, 165), (1, 167), (1, 169), (1, 171), (1, 173), (1, 175)]) (by decide +kernel)
  obtain ⟨k, hk, rfl⟩ := List.mem_map.mp h
  exact h1 k hk
theorem wd_in2 : Cond.instantiable RX2 7 ∈ lw_tbl := tabAt_in (p := (1, 104)) (by decide +kernel)
theorem wd_lay3 : ∀ w ∈ u_ws RX3 TX3 3, w ∈ lw_tbl := fun w h => by
  have h1 := pl_in (l := List.range 3) (f := u_lay RX3 TX3) (ps := [(1, 209), (1, 211), (1, 213)]) (by decide +kernel)
  obtain ⟨k, hk, rfl⟩ := List.mem_map.mp h
  exact h1 k hk
theorem wd_in3 : Cond.instantiable RX3 3 ∈ lw_tbl := tabAt_in (p := (1, 198)) (by decide +kernel)
theorem wd_lay4 : ∀ w ∈ u_ws RX4 TX4 8, w ∈ lw_tbl := fun w h => by
  have h1 := pl_in (l := List.range 8) (f := u_lay RX4 TX4) (ps := [(1, 85), (1, 87), (1, 89), (1, 91), (1, 93), (1, 95), (1, 97), (1, 99)]) (by decide +kernel)
  obtain ⟨k, hk, rfl⟩ := List.mem_map.mp h
  exact h1 k hk
theorem wd_in4 : Cond.instantiable RX4 8 ∈ lw_tbl := tabAt_in (p := (1, 66)) (by decide +kernel)
theorem wd_lay5 : ∀ w ∈ u_ws RX5 TX5 9, w ∈ lw_tbl := fun w h => by
  have h1 := pl_in (l := List.range 9) (f := u_lay RX5 TX5) (ps := [(1, 45), (1, 47), (1, 49), (1, 51), (1, 53), (1, 55), (1, 57), (1, 59), (1, 61)]) (by decide +kernel)
  obtain ⟨k, hk, rfl⟩ := List.mem_map.mp h
  exact h1 k hk
theorem wd_in5 : Cond.instantiable RX5 9 ∈ lw_tbl := tabAt_in (p := (1, 27)) (by decide +kernel)
theorem wd_lay6 : ∀ w ∈ u_ws RX6 TX6 10, w ∈ lw_tbl := fun w h => by
  have h1 := pl_in (l := List.range 10) (f := u_lay RX6 TX6) (ps := [(1, 226), (1, 228), (1, 230), (1, 232), (1, 234), (1, 236), (1, 238), (2, 0), (2, 2), (2, 4)]) (by decide +kernel)
  obtain ⟨k, hk, rfl⟩ := List.mem_map.mp h
  exact h1 k hk
theorem wd_in6 : Cond.instantiable RX6 10 ∈ lw_tbl := tabAt_in (p := (1, 13)) (by decide +kernel)
theorem wd_lay7 : ∀ w ∈ u_ws RX7 TX7 33, w ∈ lw_tbl := fun w h => by
  have h1 := pl_in (l := List.range 33) (f := u_lay RX7 TX7) (ps := [(4, 70), (4, 72), (4, 74), (4, 76), (4, 78), (4, 80), (4, 82), (4, 84), (4, 86), (4, 88), (4, 90), (4, 92), (4, 94), (4, 96), (4, 98), (4, 100), (4, 102), (4, 104), (4, 106), (4, 108), (4, 110), (4, 112), (4, 114), (4, 116), (4, 118), (4, 120), (4, 122), (4, 124), (4, 126), (4, 128), (4, 130), (4, 132), (4, 134)]) (by decide +kernel)
  obtain ⟨k, hk, rfl⟩ := List.mem_map.mp h
  exact h1 k hk
theorem wd_in7 : Cond.instantiable RX7 33 ∈ lw_tbl := tabAt_in (p := (4, 24)) (by decide +kernel)
/-- what the number of a callee must say of it -/
def eOK (e : Nat) : Bool := match Ms[e / 32768]? with
  | some q => Nat.blt (e / 32768) 224 && decide ((parseMethodDescriptor q.1.desc).map (fun d => d.parameters.length) = some (e / 8 % 16)) && (match e % 8, q.2.2.2.1 with
    | 0, none => true
    | 1, some .int => true
    | 1, some .boolean => true
    | 2, some .long => true
    | 3, some (.object _) => true
    | _, _ => false) && plainName q.1.cls && decide (q.1.cls ≠ "java/lang/invoke/MethodHandle") && decide (q.1.cls ≠ "java/lang/invoke/VarHandle") && Nat.ble q.2.2.1 30 && Nat.ble (e / 2048 % 16) q.2.2.1
  | none => false
def eOKV (e : Nat) : Bool := eOK e && decide ((vwCl[e / 128 % 16]?).map (fun c => c.1) = some (mn (e / 32768)).cls)
def eOKI (e : Nat) : Bool := eOK e && decide ((mn (e / 32768)).name = "<init>") && Nat.beq (e % 8) 0 && !(Nat.beq e 9999)
theorem ok_V : calV.all (fun q => eOKV q.2.2) = true := by decide +kernel
theorem ok_S : calS.all (fun q => eOK q.2.2 && !(Nat.beq q.2.2 9998) && !(Nat.beq q.2.2 9997) && !(Nat.beq q.2.2 9996)) = true := by decide +kernel
theorem ok_I : calI.all (fun q => eOKI q.2.2) = true := by decide +kernel
theorem ok_N : nesT.all (fun q => eOKI q.2.2) = true := by decide +kernel
theorem ok_O : objT.all (fun q => Nat.beq q.2.2 9999) = true := by decide +kernel
theorem ok_X : mxxT.all (fun q => Nat.beq q.2.2 9997) = true := by decide +kernel
theorem ok_M : mnnT.all (fun q => Nat.beq q.2.2 9996) = true := by decide +kernel
theorem ok_C : cpyT.all (fun q => Nat.beq q.2.2 9998) = true := by decide +kernel
theorem ok_own : Ms.all (fun q => decide (q.1.cls = ow q.2.2.2.2.1)) = true := by decide +kernel
/-- the field that a number means: its class, its place, its kind -/
def fOK (r : Nat) : Bool := match vwCl[r / 256]? with
  | some c => Nat.blt (r / 4 % 64) c.2.2 && Nat.beq c.2.2 (lenOf (r / 256)) && Nat.blt (r / 256) 8 && decide (c.1 = ow (r / 256)) && decide ((c.2.1 (r / 4 % 64)).1 = c.1) && (match parseFieldDescriptor (c.2.1 (r / 4 % 64)).2.2.1, r % 4 with
    | some .int, 0 => true
    | some (.array _), 1 => true
    | some (.object _), 1 => true
    | some .boolean, 2 => true
    | _, _ => false)
  | none => false
theorem ok_F : fldT.all (fun q => fOK q.2.2) = true := by decide +kernel
theorem ok_K : clsT.all (fun q => Nat.blt q.2.2 8) = true := by decide +kernel

/-! the abstract machine: heap, values, weakest preconditions over the program's data -/
abbrev AH : Type := List (Nat × Nat) × (Nat → Nat → Int32) × (Nat → Nat → Int64) × (Nat → Nat → Option Nat)
def hs (h : AH) (a : Nat) : Option (Nat × Nat) := h.1[a]?
def mi (h : AH) (a i : Nat) : Int32 := h.2.1 a i
def ml (h : AH) (a i : Nat) : Int64 := h.2.2.1 a i
def mr (h : AH) (a i : Nat) : Option Nat := h.2.2.2 a i
def wi (h : AH) (a i : Nat) (v : Int32) : AH := (h.1, fun x j => if x = a ∧ j = i then v else h.2.1 x j, h.2.2.1, h.2.2.2)
def wl (h : AH) (a i : Nat) (v : Int64) : AH := (h.1, h.2.1, fun x j => if x = a ∧ j = i then v else h.2.2.1 x j, h.2.2.2)
def wr (h : AH) (a i : Nat) (v : Nat) : AH := (h.1, h.2.1, h.2.2.1, fun x j => if x = a ∧ j = i then some v else h.2.2.2 x j)
def wa (h : AH) (a : Nat) (f : Nat → Int32) : AH := (h.1, fun x j => if x = a then f j else h.2.1 x j, h.2.2.1, h.2.2.2)
def hn (h : AH) (t n : Nat) : AH := (h.1 ++ [(t, n)], fun x j => if x = h.1.length then 0 else h.2.1 x j, fun x j => if x = h.1.length then 0 else h.2.2.1 x j, fun x j => if x = h.1.length then none else h.2.2.2 x j)
def Ext (h h' : AH) : Prop := (∃ l, h'.1 = h.1 ++ l) ∧ ∀ a k j, a < h.1.length → mr h a k = some j → mr h' a k = some j
def cI (n : Int) : Int32 := match n with
  | .ofNat k => nI k
  | .negSucc k => Int32.ofInt (.negSucc k)
def cL (n : Int) : Int64 := Int64.ofInt n
abbrev unk : Value := .float 0
def gL : List Value → Nat → Value
  | [], _ => unk
  | v :: _, 0 => v
  | _ :: l, k + 1 => gL l k
def kl2 (v : Value) : Value := bif Nat.beq v.category 2 then unk else v
def stL : List Value → Nat → Value → List Value
  | [], 0, v => [v]
  | [], k + 1, v => unk :: stL [] k v
  | _ :: l, 0, v => v :: l
  | a :: l, 1, v => kl2 a :: stL l 0 v
  | a :: l, k + 2, v => a :: stL l (k + 1) v
def keepL : List Value → Nat → List Value
  | [], _ => []
  | v :: l, m => bif Nat.beq m 0 then [] else (bif Nat.beq (m % 2) 1 then v else unk) :: keepL l (m / 2)
def pV : List Value → (Value → List Value → Prop) → Prop
  | v :: s, K => K v s
  | [], _ => False
def pI : List Value → (Int32 → List Value → Prop) → Prop
  | .int x :: s, K => K x s
  | _, _ => False
def pJ : List Value → (Int64 → List Value → Prop) → Prop
  | .long x :: s, K => K x s
  | _, _ => False
def pR : List Value → (Nat → List Value → Prop) → Prop
  | .ref x :: s, K => K x s
  | _, _ => False
def lI : Value → (Int32 → Prop) → Prop
  | .int x, K => K x
  | _, _ => False
def lJ : Value → (Int64 → Prop) → Prop
  | .long x, K => K x
  | _, _ => False
def lA (v : Value) (K : Value → Prop) : Prop := match v with
  | .ref a => K (.ref a)
  | .null => K .null
  | _ => False
def pN : Nat → List Value → (List Value → List Value → Prop) → Prop
  | 0, st, K => K [] st
  | k + 1, v :: st, K => pN k st fun as s => K (as ++ [v]) s
  | _ + 1, [], _ => False
def nil0 (st : List Value) (P : Prop) : Prop := match st with
  | [] => P
  | _ => False
def wsum : List Value → Nat
  | [] => 0
  | v :: l => v.category + wsum l
def cj (c : ClassFile.Cond) (x y : Int32) (T F : Prop) : Prop := match c with
  | .eq => (x = y → T) ∧ (¬ x = y → F)
  | .ne => (¬ x = y → T) ∧ (x = y → F)
  | .lt => (x < y → T) ∧ (¬ x < y → F)
  | .ge => (y ≤ x → T) ∧ (¬ y ≤ x → F)
  | .gt => (y < x → T) ∧ (¬ y < x → F)
  | .le => (x ≤ y → T) ∧ (¬ x ≤ y → F)
def swT (x : Int32) (K : Int → Prop) : Int → List Int → Prop
  | _, [] => True
  | lo, o :: l => (x = cI lo → K o) ∧ swT x K (lo + 1) l
def lsw (x : Int32) (K : Int → Prop) (d : Int) : List (Int × Int) → Prop
  | [] => K d
  | q :: l => (x = cI q.1 → K q.2) ∧ (¬ x = cI q.1 → lsw x K d l)
abbrev PQ : Type := Value → AH → Prop
def asI (K : Int32 → AH → Prop) : PQ := fun v h => match v with
  | .int x => K x h
  | _ => False
def asL (K : Int64 → AH → Prop) : PQ := fun v h => match v with
  | .long x => K x h
  | _ => False
def asV (K : AH → Prop) : PQ := fun v h => match v with
  | .retAddr _ => K h
  | _ => False
def asR (K : Option Nat → AH → Prop) : PQ := fun v h => match v with
  | .ref a => K (some a) h
  | .null => K none h
  | _ => False
def isB (x : Int32) : Bool := x == 0 || x == 1
/-- the part of a value's check that the return type asks for -/
def rOK (rt : Option FieldType) (x : Int32) (P : Prop) : Prop := match rt with
  | some .int => P
  | some .boolean => isB x = true ∧ P
  | _ => False
def fRef (kd : Nat) : Bool := Nat.beq kd 1
def exL : List Value → List Value
  | [] => []
  | v :: l => bif Nat.beq v.category 2 then v :: unk :: exL l else v :: exL l
abbrev EvT : Type := Nat → Nat → Nat → Nat → Nat → List Value → List Value → AH → PQ → Prop
/-- a call: callee e % 8 kind of answer, e / 8 % 16 parameters, e / 128 % 16 class, e / 2048 % 16 words of the arguments, e / 32768 method -/
def cal (Ev : EvT) (d g g' e : Nat) (av : List Value) (h : AH) (s : List Value) (nx : Nat → List Value → AH → Prop) : Prop :=
  bif Nat.ble (wsum s) 8 && Nat.ble (wsum av) (e / 2048 % 16) then (match d with
    | 0 => False
    | d1 + 1 => ∃ g1, (g' ≤ g1 ∧ g1 ≤ g) ∧ Ev d1 g g1 (e / 32768) 0 (exL av) [] h (match e % 8 with
      | 0 => asV fun h1 => Ext h h1 → nx g1 s h1
      | 1 => asI fun x h1 => Ext h h1 → nx g1 (.int x :: s) h1
      | 2 => asL fun x h1 => Ext h h1 → nx g1 (.long x :: s) h1
      | _ => asR fun r h1 => Ext h h1 → (r = none → nx g1 (.null :: s) h1) ∧ (∀ a, r = some a → nx g1 (.ref a :: s) h1)))
  else False
def lenOf (t : Nat) : Nat := match t with
  | 0 => 4
  | 1 => 6
  | 2 => 7
  | 3 => 3
  | 4 => 8
  | 5 => 9
  | 6 => 10
  | _ => 33
/-- one instruction: nx goes on behind it, jp at a target -/
def stp (Ev : EvT) (d g' : Nat) (rt : Option FieldType) (Q : PQ) (nx : Nat → List Value → List Value → AH → Prop) (jp : Int → Nat → List Value → List Value → AH → Prop) (g : Nat) (ls st : List Value) (h : AH) (i : Instr) : Prop := match i with
  | .iload k => lI (gL ls k) fun x => nx g ls (.int x :: st) h
  | .lload k => lJ (gL ls k) fun x => nx g ls (.long x :: st) h
  | .aload k => lA (gL ls k) fun v => nx g ls (v :: st) h
  | .istore k => pI st fun x s => nx g (stL ls k (.int x)) s h
  | .lstore k => pJ st fun x s => nx g (stL (stL ls (k + 1) unk) k (.long x)) s h
  | .astore k => pV st fun v s => lA v fun v => nx g (stL ls k v) s h
  | .iconst n => nx g ls (.int (cI n) :: st) h
  | .sipush n => nx g ls (.long (cL n) :: st) h
  | .aconst_null => nx g ls (.null :: st) h
  | .dup => pV st fun v s => bif Nat.beq v.category 1 then nx g ls (v :: v :: s) h else False
  | .dup2 => pV st fun v s => pV s fun w s => bif Nat.beq v.category 1 && Nat.beq w.category 1 then nx g ls (v :: w :: v :: w :: s) h else False
  | .pop => pV st fun v s => bif Nat.beq v.category 1 then nx g ls s h else False
  | .iadd => pI st fun y s => pI s fun x s => nx g ls (.int (x + y) :: s) h
  | .isub => pI st fun y s => pI s fun x s => nx g ls (.int (x - y) :: s) h
  | .imul => pI st fun y s => pI s fun x s => nx g ls (.int (x * y) :: s) h
  | .idiv => pI st fun y s => pI s fun x s => (¬ y = 0) ∧ nx g ls (.int (x / y) :: s) h
  | .irem => pI st fun y s => pI s fun x s => (¬ y = 0) ∧ nx g ls (.int (x - x / y * y) :: s) h
  | .iand => pI st fun y s => pI s fun x s => nx g ls (.int (x &&& y) :: s) h
  | .ior => pI st fun y s => pI s fun x s => nx g ls (.int (x ||| y) :: s) h
  | .ixor => pI st fun y s => pI s fun x s => nx g ls (.int (x ^^^ y) :: s) h
  | .ishl => pI st fun y s => pI s fun x s => nx g ls (.int (x <<< (y &&& 31)) :: s) h
  | .ishr => pI st fun y s => pI s fun x s => nx g ls (.int (x >>> (y &&& 31)) :: s) h
  | .iushr => pI st fun y s => pI s fun x s => nx g ls (.int (x.toUInt32 >>> (y.toUInt32 &&& Int32.toUInt32 31)).toInt32 :: s) h
  | .ladd => pJ st fun y s => pJ s fun x s => nx g ls (.long (x + y) :: s) h
  | .lcmp => pJ st fun y s => pJ s fun x s => nx g ls (.int (lg_cmp x y) :: s) h
  | .i2l => pI st fun x s => nx g ls (.long x.toInt64 :: s) h
  | .i2b => pI st fun x s => nx g ls (.int x.toInt8.toInt32 :: s) h
  | .i2s => pI st fun x s => nx g ls (.int x.toInt16.toInt32 :: s) h
  | .iinc k n => lI (gL ls k) fun x => nx g (stL ls k (.int (x + cI n))) st h
  | .if_icmp c t => pI st fun y s => pI s fun x s => cj c x y (jp t g ls s h) (nx g ls s h)
  | .ifCond c t => pI st fun x s => cj c x 0 (jp t g ls s h) (nx g ls s h)
  | .ifnull t => pV st fun v s => match v with
    | .null => jp t g ls s h
    | .ref _ => nx g ls s h
    | _ => False
  | .ifnonnull t => pV st fun v s => match v with
    | .null => nx g ls s h
    | .ref _ => jp t g ls s h
    | _ => False
  | .goto t => jp t g ls st h
  | .tableswitch dt lo hi offs => pI st fun x s => swT x (fun t => jp t g ls s h) lo offs.toList ∧ ((x.toInt < lo ∨ hi < x.toInt) → jp dt g ls s h)
  | .lookupswitch dt ps => pI st fun x s => lsw x (fun t => jp t g ls s h) dt ps.toList
  | .getfield r => pR st fun a s => hs h a = some (10 + r / 256, lenOf (r / 256)) ∧ (bif fRef (r % 4) then (∃ j, mr h a (r / 4 % 64) = some j ∧ nx g ls (.ref j :: s) h) else nx g ls (.int (mi h a (r / 4 % 64)) :: s) h)
  | .putfield r => (match r % 4 with
    | 0 => pI st fun x s => pR s fun a s => hs h a = some (10 + r / 256, lenOf (r / 256)) ∧ nx g ls s (wi h a (r / 4 % 64) x)
    | 1 => pR st fun j s => pR s fun a s => hs h a = some (10 + r / 256, lenOf (r / 256)) ∧ mr h a (r / 4 % 64) = none ∧ nx g ls s (wr h a (r / 4 % 64) j)
    | _ => pI st fun x s => pR s fun a s => hs h a = some (10 + r / 256, lenOf (r / 256)) ∧ isB x = true ∧ nx g ls s (wi h a (r / 4 % 64) x))
  | .iaload => pI st fun i s => pR s fun a s => (∃ t n, hs h a = some (t, n) ∧ (t = 0 ∨ t = 9) ∧ vp_in i n) ∧ nx g ls (.int (mi h a i.toNatClampNeg) :: s) h
  | .iastore => pI st fun x s => pI s fun i s => pR s fun a s => (∃ n, hs h a = some (0, n) ∧ vp_in i n) ∧ nx g ls s (wi h a i.toNatClampNeg x)
  | .laload => pI st fun i s => pR s fun a s => (∃ n, hs h a = some (1, n) ∧ vp_in i n) ∧ nx g ls (.long (ml h a i.toNatClampNeg) :: s) h
  | .lastore => pJ st fun x s => pI s fun i s => pR s fun a s => (∃ n, hs h a = some (1, n) ∧ vp_in i n) ∧ nx g ls s (wl h a i.toNatClampNeg x)
  | .baload => pI st fun i s => pR s fun a s => (∃ n, hs h a = some (2, n) ∧ vp_in i n) ∧ nx g ls (.int (mi h a i.toNatClampNeg) :: s) h
  | .bastore => pI st fun x s => pI s fun i s => pR s fun a s => (∃ n, hs h a = some (2, n) ∧ vp_in i n) ∧ nx g ls s (wi h a i.toNatClampNeg (x &&& 1))
  | .aaload => pI st fun i s => pR s fun a s => (∃ t n, hs h a = some (t, n) ∧ (t = 3 ∨ t = 4 ∨ t = 5) ∧ vp_in i n) ∧ ∃ j, mr h a i.toNatClampNeg = some j ∧ nx g ls (.ref j :: s) h
  | .aastore => pR st fun j s => pI s fun i s => pR s fun a s => (∃ t n, hs h a = some (t, n) ∧ vp_in i n ∧ ((t = 3 ∧ hs h j = some (12, 7)) ∨ (t = 4 ∧ hs h j = some (10, 4)) ∨ (t = 5 ∧ hs h j = some (13, 3)))) ∧ mr h a i.toNatClampNeg = none ∧ nx g ls s (wr h a i.toNatClampNeg j)
  | .arraylength => pR st fun a s => ∃ n, hs h a = some (9, n) ∧ nx g ls (.int (nI n) :: s) h
  | .new c => match g with
    | 0 => False
    | g1 + 1 => g' ≤ g1 ∧ nx g1 ls (.ref h.1.length :: st) (hn h (10 + c) (lenOf c))
  | .anewarray t => pI st fun x s => (¬ x < 0 ∧ x.toNatClampNeg ≤ 400) ∧ match g with
    | 0 => False
    | g1 + 1 => g' ≤ g1 ∧ nx g1 ls (.ref h.1.length :: s) (hn h t x.toNatClampNeg)
  | .invokespecial e => bif Nat.beq e 9999 then (pR st fun _ s => bif Nat.ble (wsum s) 8 then (match d with
      | 0 => False
      | _ + 1 => nx g ls s h) else False) else (pN (e / 8 % 16) st fun av s => pR s fun a s => cal Ev d g g' e (.ref a :: av) h s fun g s h => nx g ls s h)
  | .invokevirtual e => pN (e / 8 % 16) st fun av s => pR s fun a s => hs h a = some (10 + e / 128 % 16, lenOf (e / 128 % 16)) ∧ cal Ev d g g' e (.ref a :: av) h s fun g s h => nx g ls s h
  | .invokestatic e => bif Nat.beq e 9997 then (pI st fun y s => pI s fun x s => bif Nat.ble (wsum s) 8 then (match d with
      | 0 => False
      | _ + 1 => nx g ls (.int (if x < y then y else x) :: s) h) else False)
    else bif Nat.beq e 9996 then (pI st fun y s => pI s fun x s => bif Nat.ble (wsum s) 8 then (match d with
      | 0 => False
      | _ + 1 => nx g ls (.int (if y < x then y else x) :: s) h) else False)
    else bif Nat.beq e 9998 then (pI st fun n s => pI s fun dp s => pR s fun a1 s => pI s fun sp s => pR s fun a0 s => bif Nat.ble (wsum s) 8 then (match d with
      | 0 => False
      | _ + 1 => (∃ n0 n1, hs h a0 = some (0, n0) ∧ hs h a1 = some (0, n1) ∧ ¬ sp < 0 ∧ ¬ dp < 0 ∧ ¬ n < 0 ∧ sp.toNatClampNeg + n.toNatClampNeg ≤ n0 ∧ dp.toNatClampNeg + n.toNatClampNeg ≤ n1) ∧ nx g ls s (wa h a1 (va_cpy (h.2.1 a0) (h.2.1 a1) sp.toNatClampNeg dp.toNatClampNeg n.toNatClampNeg))) else False)
    else (pN (e / 8 % 16) st fun av s => cal Ev d g g' e av h s fun g s h => nx g ls s h)
  | .ireturn => pI st fun x s => nil0 s (rOK rt x (Q (.int x) h))
  | .lreturn => pJ st fun x s => nil0 s (rt = some .long ∧ Q (.long x) h)
  | .areturn => pV st fun v s => lA v fun v => nil0 s ((∃ C, rt = some (.object C)) ∧ Q v h)
  | .return_ => nil0 st (rt = none ∧ Q (.retAddr 0) h)
  | _ => False
def sufAt : List En → Nat → List En
  | [], _ => []
  | e :: l, pc => bif Nat.beq e.1 pc then e :: l else sufAt l pc
/-- the weakest precondition of the code from rem on, up to calls and loop heads -/
def wp (Ev : EvT) (d g' y : Nat) (rt : Option FieldType) (E : List En) (Q : PQ) : Nat → List En → Nat → List Value → List Value → AH → Prop
  | 0, _, _, _, _, _ => False
  | n + 1, rem, g, ls, st, h => match rem with
    | [] => False
    | (pc, i, len) :: rest => match len with
      | 0 => (match i with
        | .iload msk => Ev d g g' y pc (keepL ls msk) st h Q
        | _ => False)
      | _ + 1 => stp Ev d g' rt Q (fun g ls st h => wp Ev d g' y rt E Q n rest g ls st h) (fun t g ls st h => wp Ev d g' y rt E Q n (sufAt E t.toNat) g ls st h) g ls st h i
def skipM : List En → List En
  | (pc, i, 0) :: l => l
  | l => l

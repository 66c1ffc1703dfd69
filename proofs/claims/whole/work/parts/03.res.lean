/-! resolution of operands -/
def lk {α : Type} (t : List (Nat × Nat × α)) (own idx : Nat) : Option α := match t with
  | [] => none
  | q :: l => bif Nat.beq q.1 own && Nat.beq q.2.1 idx then some q.2.2 else lk l own idx
def finF (r : Nat) : Bool := match vwCl[r / 256]? with
  | some c => (c.2.1 (r / 4 % 64)).2.2.2
  | none => true
def resI (own : Nat) (ini : Bool) (pc : Nat) (i : Instr) : Option Instr := match i with
  | .iload_n k => some (.iload k.val)
  | .iload k => some (.iload k)
  | .lload_n k => some (.lload k.val)
  | .lload k => some (.lload k)
  | .aload_n k => some (.aload k.val)
  | .aload k => some (.aload k)
  | .istore_n k => some (.istore k.val)
  | .istore k => some (.istore k)
  | .lstore_n k => some (.lstore k.val)
  | .lstore k => some (.lstore k)
  | .astore_n k => some (.astore k.val)
  | .astore k => some (.astore k)
  | .iconst n => some (.iconst n)
  | .bipush n => if (Int8.ofInt n).toInt32 = Int32.ofInt n then some (.iconst n) else none
  | .sipush n => if (Int16.ofInt n).toInt32 = Int32.ofInt n then some (.iconst n) else none
  | .ldc_w k => (lk cstT own k).map .iconst
  | .lconst n => some (.sipush (.ofNat n.val))
  | .ldc2_w k => (lk csLT own k).map .sipush
  | .goto o => some (.goto (pc + o))
  | .if_icmp c o => some (.if_icmp c (pc + o))
  | .ifCond c o => some (.ifCond c (pc + o))
  | .ifnull o => some (.ifnull (pc + o))
  | .ifnonnull o => some (.ifnonnull (pc + o))
  | .tableswitch dt lo hi offs => if lo + offs.size = hi + 1 ∧ -2147483648 ≤ lo ∧ hi < 2147483648 then some (.tableswitch (pc + dt) lo hi (offs.map fun o => pc + o)) else none
  | .lookupswitch dt ps => if (ps.toList.zip (ps.toList.drop 1)).all (fun (a, next) => a.1 < next.1) = true ∧ ps.toList.all (fun q => -2147483648 ≤ q.1 && q.1 < 2147483648) = true then some (.lookupswitch (pc + dt) (ps.map fun q => (q.1, pc + q.2))) else none
  | .getfield k => (lk fldT own k).map .getfield
  | .putfield k => match lk fldT own k with
    | some r => bif finF r && !(ini && Nat.beq own (r / 256)) then none else some (.putfield r)
    | none => none
  | .invokevirtual k => (lk calT own k).map .invokevirtual
  | .invokestatic k => match lk calT own k with
    | some e => some (.invokestatic e)
    | none => (lk cpyT own k).map .invokestatic
  | .invokespecial k => match lk calT own k with
    | some e => some (.invokespecial e)
    | none => match lk nesT own k with
      | some e => some (.invokespecial e)
      | none => (lk objT own k).map .invokespecial
  | .new k => (lk clsT own k).map .new
  | .newarray .int => some (.anewarray 0)
  | .newarray .long => some (.anewarray 1)
  | .newarray .boolean => some (.anewarray 2)
  | .anewarray k => match lk clsT own k with
    | some 2 => some (.anewarray 3)
    | some 0 => some (.anewarray 4)
    | some 3 => some (.anewarray 5)
    | _ => none
  | .iinc k n => some (.iinc k n)
  | .aconst_null => some .aconst_null
  | .dup => some .dup
  | .dup2 => some .dup2
  | .pop => some .pop
  | .iadd => some .iadd
  | .isub => some .isub
  | .imul => some .imul
  | .idiv => some .idiv
  | .irem => some .irem
  | .iand => some .iand
  | .ior => some .ior
  | .ixor => some .ixor
  | .ishl => some .ishl
  | .ishr => some .ishr
  | .iushr => some .iushr
  | .ladd => some .ladd
  | .lcmp => some .lcmp
  | .i2l => some .i2l
  | .i2b => some .i2b
  | .i2s => some .i2s
  | .iaload => some .iaload
  | .iastore => some .iastore
  | .laload => some .laload
  | .lastore => some .lastore
  | .baload => some .baload
  | .bastore => some .bastore
  | .aaload => some .aaload
  | .aastore => some .aastore
  | .arraylength => some .arraylength
  | .ireturn => some .ireturn
  | .lreturn => some .lreturn
  | .areturn => some .areturn
  | .return_ => some .return_
  | _ => none
def nxOK (pc : Nat) (l : List En) : Bool := match l with
  | [] => true
  | e :: _ => Nat.beq e.1 pc
/-- an entry is the code's: decoded, resolved, its length the code's own -/
def chk1 (own : Nat) (ini : Bool) (cc : ByteArray) (e : En) : Bool := match e.2.2 with
  | 0 => true
  | _ => match decode cc e.1 with
    | .ok (i, n) => Nat.beq n e.2.2 && decide (resI own ini e.1 i = some e.2.1)
    | .error _ => false
def adjE : List En → Bool
  | [] => true
  | e :: l => nxOK (e.1 + e.2.2) l && adjE l
def chkE (own : Nat) (ini : Bool) (cc : ByteArray) (l : List En) : Bool := l.all (chk1 own ini cc) && adjE l
def iniM (q : Mt) : Bool := decide (q.1.name = "<init>")
theorem all_step {α : Type} (p : α → Bool) (n : Nat) (L : List α) (h1 : (L.take n).all p = true) (h2 : (L.drop n).all p = true) : L.all p = true := by
  have h : (L.take n ++ L.drop n).all p = true := by rw [List.all_append, h1, h2]; rfl
  rwa [List.take_append_drop] at h

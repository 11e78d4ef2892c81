/-! THE SMALL MACHINE: the methods' bytecode, run over numbered cells. Cells are numbered by the order in which the constructors make them; a reference is a cell's number; 900 is the law's script (901: its length), 910 the words of the reference's language. -/
abbrev zHP : Type := (Nat → Nat → Int32) × (Nat → Nat → Int64) × (Nat → Nat → Option Nat)
abbrev zLs : Type := List (Option Value)
abbrev zMI : Type := MethodName × ByteArray × Nat × Option FieldType × Nat
/-- a cell's kind (below 100: its class; 100 int[], 101 byte[], 102 boolean[], 103 long[], 104 int[][]) and how many places it has -/
def zSH : List (Nat × Nat) := [(9, 12), (4, 9), (7, 8), (101, 700), (100, 20), (100, 72), (3, 15), (100, 6), (100, 18), (100, 6), (104, 10), (100, 5), (100, 5), (100, 5), (100, 5), (100, 5), (100, 5), (100, 5), (100, 5), (100, 5), (100, 5), (104, 12), (100, 3), (100, 3), (100, 3), (100, 3), (100, 3), (100, 3), (100, 3), (100, 3), (100, 3), (100, 3), (100, 3), (100, 3), (100, 3), (100, 3), (100, 3), (100, 64), (100, 64), (3, 15), (100, 6), (100, 18), (100, 6), (104, 10), (100, 5), (100, 5), (100, 5), (100, 5), (100, 5), (100, 5), (100, 5), (100, 5), (100, 5), (100, 5), (104, 12), (100, 3), (100, 3), (100, 3), (100, 3), (100, 3), (100, 3), (100, 3), (100, 3), (100, 3), (100, 3), (100, 3), (100, 3), (100, 3), (100, 3), (100, 3), (100, 64), (100, 64), (8, 15), (100, 6), (100, 18), (100, 6), (100, 6), (100, 6), (100, 12), (100, 12), (100, 12), (100, 36), (8, 15), (100, 6), (100, 18), (100, 6), (100, 6), (100, 6), (100, 12), (100, 12), (100, 12), (100, 36), (8, 15), (100, 6), (100, 18), (100, 6), (100, 6), (100, 6), (100, 12), (100, 12), (100, 12), (100, 36), (0, 8), (6, 2), (103, 7), (103, 64), (5, 9), (100, 24), (100, 24), (100, 24), (102, 24), (100, 24), (102, 24), (1, 3), (100, 260), (2, 5), (100, 36), (104, 7), (100, 64), (100, 64), (100, 64), (100, 64), (100, 64), (100, 64), (100, 64), (100, 6), (100, 11), (10, 66), (100, 700), (100, 14), (100, 12), (100, 36), (100, 12), (100, 20), (100, 20), (100, 20), (100, 20), (100, 20), (100, 24), (100, 24), (100, 24), (100, 6), (100, 6), (100, 128), (100, 128), (103, 7), (103, 64), (100, 23), (100, 23), (100, 23), (100, 23), (100, 23), (100, 414), (100, 138), (100, 138), (100, 138), (100, 138), (100, 276), (100, 828), (100, 6), (100, 6), (100, 12), (100, 24), (100, 24), (100, 24), (102, 24), (100, 24), (102, 24), (100, 11), (103, 1)]
def zkd (k : Nat) : Nat := (zSH.getD k (999, 0)).1
def zln (k : Nat) : Nat := (zSH.getD k (999, 0)).2
def zwds : List Int32 := [109, 97, 110, 32, 108, 101, 97, 115, 101, 32, 108, 101, 116, 116, 101, 114, 32, 119, 101, 97, 114, 32, 119, 97, 116, 99, 104, 32, 115, 101, 101, 100, 32, 108, 97, 119, 32, 114, 101, 110, 116, 32, 116, 117, 114, 110, 32, 102, 105, 110, 101, 32, 111, 114, 32, 97, 110, 100, 32, 110, 111, 116, 32, 115, 108, 97, 110, 116, 32, 108, 111, 111, 112, 115, 32, 119, 101, 105, 103, 104, 116, 32, 112, 117, 114, 115, 101, 32, 112, 114, 105, 99, 101, 32, 116, 105, 109, 101, 115, 32, 100, 97, 121, 32]
def zu {α : Type} (f : Nat → Nat → α) (o k : Nat) (v : α) : Nat → Nat → α := va_up f o (va_up (f o) k v)
def zcv (ad : Nat → Nat) : Value → Value
  | .ref k => .ref (ad k)
  | v => v
def zcat (st : List Value) : Nat := (st.map fun v => v.category).sum
def zfl (c k : Nat) : Option (Nat × Nat) := (zflT.find? (fun q => q.1 == c && q.2.1 == k)).map (fun q => (q.2.2.1, q.2.2.2.1))
def zca (c k : Nat) : Option (Nat × Nat × Nat) := (zcaT.find? (fun q => q.1 == c && q.2.1 == k)).map (fun q => (q.2.2.1, q.2.2.2.1, q.2.2.2.2.1))
def zci (c k : Nat) : Option Int32 := (zciT.find? (fun q => q.1 == c && q.2.1 == k)).map (fun q => q.2.2.1)
def zcl (c k : Nat) : Option Int64 := (zclT.find? (fun q => q.1 == c && q.2.1 == k)).map (fun q => q.2.2.1)
def zsort : Value → Nat
  | .int _ => 0
  | .long _ => 1
  | .ref _ => 2
  | _ => 3
def zin (i : Int32) (n : Nat) : Bool := decide (¬ (i < 0 ∨ n ≤ i.toNatClampNeg))
def zfs (ci j : Nat) : Nat := match zty ci j with
  | .int => 0
  | .boolean => 1
  | .long => 2
  | .object _ => 3
  | .array _ => 3
  | _ => 4
/-- no long lies at the place ahead of i -/
def zfree (ls : zLs) : Nat → Bool
  | 0 => true
  | i + 1 => match ls[i]? with
    | some (some v) => v.category == 1
    | _ => true
def zld (pc : Nat) (ls : zLs) (st : List Value) (hp : zHP) (i w : Nat) : Option (Nat × zLs × List Value × zHP) := match ls[i]? with
  | some (some v) => if zsort v = w then some (pc, ls, v :: st, hp) else none
  | _ => none
def zsto (pc : Nat) (ls : zLs) (st : List Value) (hp : zHP) (i w : Nat) : Option (Nat × zLs × List Value × zHP) := match st with
  | v :: r => if zsort v = w ∧ zfree ls i = true ∧ i < ls.length then some (pc, ls.set i (some v), r, hp) else none
  | [] => none
def zstl (pc : Nat) (ls : zLs) (st : List Value) (hp : zHP) (i : Nat) : Option (Nat × zLs × List Value × zHP) := match st with
  | .long v :: r => if zfree ls i = true ∧ i + 1 < ls.length then some (pc, (ls.set i (some (.long v))).set (i + 1) none, r, hp) else none
  | _ => none
def zi2 (pc : Nat) (ls : zLs) (st : List Value) (hp : zHP) (f : Int32 → Int32 → Int32) : Option (Nat × zLs × List Value × zHP) := match st with
  | .int y :: .int x :: r => some (pc, ls, .int (f x y) :: r, hp)
  | _ => none
def zl2 (pc : Nat) (ls : zLs) (st : List Value) (hp : zHP) (f : Int64 → Int64 → Int64) : Option (Nat × zLs × List Value × zHP) := match st with
  | .long y :: .long x :: r => some (pc, ls, .long (f x y) :: r, hp)
  | _ => none
def zi1 (pc : Nat) (ls : zLs) (st : List Value) (hp : zHP) (f : Int32 → Value) : Option (Nat × zLs × List Value × zHP) := match st with
  | .int x :: r => some (pc, ls, f x :: r, hp)
  | _ => none
def zl1 (pc : Nat) (ls : zLs) (st : List Value) (hp : zHP) (f : Int64 → Value) : Option (Nat × zLs × List Value × zHP) := match st with
  | .long x :: r => some (pc, ls, f x :: r, hp)
  | _ => none
def ztg (pc : Nat) (off : Int) (ls : zLs) (st : List Value) (hp : zHP) : Option (Nat × zLs × List Value × zHP) := if 0 ≤ (pc : Int) + off then some (((pc : Int) + off).toNat, ls, st, hp) else none
def zcmp : ClassFile.Cond → Int32 → Int32 → Bool
  | .eq, x, y => decide (x = y)
  | .ne, x, y => decide (¬ x = y)
  | .lt, x, y => decide (x < y)
  | .ge, x, y => decide (y ≤ x)
  | .gt, x, y => decide (y < x)
  | .le, x, y => decide (x ≤ y)
def zget (pc : Nat) (ls : zLs) (r : List Value) (hp : zHP) (o ci j : Nat) : Option (Nat × zLs × List Value × zHP) :=
  if zkd o = ci then
    match zfs ci j with
    | 0 => some (pc, ls, .int (hp.1 o j) :: r, hp)
    | 1 => some (pc, ls, .int (hp.1 o j) :: r, hp)
    | 2 => some (pc, ls, .long (hp.2.1 o j) :: r, hp)
    | 3 => match hp.2.2 o j with
      | some q => some (pc, ls, .ref q :: r, hp)
      | none => none
    | _ => none
  else none
def zput (pc : Nat) (ls : zLs) (r : List Value) (hp : zHP) (v : Value) (o ci j : Nat) : Option (Nat × zLs × List Value × zHP) :=
  if zkd o = ci ∧ (zT ci j).2.2.2 = false then
    match zfs ci j, v with
    | 0, .int x => some (pc, ls, r, (zu hp.1 o j x, hp.2.1, hp.2.2))
    | 1, .int x => if x = 0 ∨ x = 1 then some (pc, ls, r, (zu hp.1 o j x, hp.2.1, hp.2.2)) else none
    | 2, .long x => some (pc, ls, r, (hp.1, zu hp.2.1 o j x, hp.2.2))
    | 3, .ref q => some (pc, ls, r, (hp.1, hp.2.1, zu hp.2.2 o j (some q)))
    | _, _ => none
  else none
def zsw (pc : Nat) (dflt lo hi : Int) (offs : Array Int) (x : Int32) : Option Int := if x.toInt < lo ∨ hi < x.toInt then some dflt else offs[(x.toInt - lo).toNat]?
/-- one instruction that is neither a call nor a return -/
def zact (c pc : Nat) (i : Instr) (ls : zLs) (st : List Value) (hp : zHP) : Option (Nat × zLs × List Value × zHP) := match i with
  | .iconst k => some (pc + 1, ls, .int (Int32.ofInt k) :: st, hp)
  | .bipush k => some (pc + 2, ls, .int (Int8.ofInt k).toInt32 :: st, hp)
  | .sipush k => some (pc + 3, ls, .int (Int16.ofInt k).toInt32 :: st, hp)
  | .lconst k => some (pc + 1, ls, .long (Int64.ofNat (k : Nat)) :: st, hp)
  | .ldc k => match zci c k with
    | some v => some (pc + 2, ls, .int v :: st, hp)
    | none => if c = 10 ∧ k = 194 then some (pc + 2, ls, .ref 910 :: st, hp) else none
  | .ldc_w k => match zci c k with
    | some v => some (pc + 3, ls, .int v :: st, hp)
    | none => none
  | .ldc2_w k => match zcl c k with
    | some v => some (pc + 3, ls, .long v :: st, hp)
    | none => none
  | .iload_n k => zld (pc + 1) ls st hp k 0
  | .iload k => zld (pc + 2) ls st hp k 0
  | .lload_n k => zld (pc + 1) ls st hp k 1
  | .lload k => zld (pc + 2) ls st hp k 1
  | .aload_n k => zld (pc + 1) ls st hp k 2
  | .aload k => zld (pc + 2) ls st hp k 2
  | .istore_n k => zsto (pc + 1) ls st hp k 0
  | .istore k => zsto (pc + 2) ls st hp k 0
  | .astore_n k => zsto (pc + 1) ls st hp k 2
  | .astore k => zsto (pc + 2) ls st hp k 2
  | .lstore_n k => zstl (pc + 1) ls st hp k
  | .lstore k => zstl (pc + 2) ls st hp k
  | .iinc k n => match ls[k]? with
    | some (some (.int x)) => if zfree ls k = true then some (pc + 3, ls.set k (some (.int (x + Int32.ofInt n))), st, hp) else none
    | _ => none
  | .iadd => zi2 (pc + 1) ls st hp (fun x y => x + y)
  | .isub => zi2 (pc + 1) ls st hp (fun x y => x - y)
  | .imul => zi2 (pc + 1) ls st hp (fun x y => x * y)
  | .iand => zi2 (pc + 1) ls st hp (fun x y => x &&& y)
  | .ior => zi2 (pc + 1) ls st hp (fun x y => x ||| y)
  | .ishl => zi2 (pc + 1) ls st hp (fun x y => x <<< (y &&& 31))
  | .ishr => zi2 (pc + 1) ls st hp (fun x y => x >>> (y &&& 31))
  | .iushr => zi2 (pc + 1) ls st hp (fun x y => (x.toUInt32 >>> (y.toUInt32 &&& Int32.toUInt32 31)).toInt32)
  | .idiv => match st with
    | .int y :: .int x :: r => if y = 0 then none else some (pc + 1, ls, .int (x / y) :: r, hp)
    | _ => none
  | .irem => match st with
    | .int y :: .int x :: r => if y = 0 then none else some (pc + 1, ls, .int (x - x / y * y) :: r, hp)
    | _ => none
  | .ineg => zi1 (pc + 1) ls st hp (fun x => .int (-x))
  | .i2l => zi1 (pc + 1) ls st hp (fun x => .long x.toInt64)
  | .i2b => zi1 (pc + 1) ls st hp (fun x => .int x.toInt8.toInt32)
  | .ladd => zl2 (pc + 1) ls st hp (fun x y => x + y)
  | .lsub => zl2 (pc + 1) ls st hp (fun x y => x - y)
  | .lmul => zl2 (pc + 1) ls st hp (fun x y => x * y)
  | .land => zl2 (pc + 1) ls st hp (fun x y => x &&& y)
  | .ldiv => match st with
    | .long y :: .long x :: r => if y = 0 then none else some (pc + 1, ls, .long (x / y) :: r, hp)
    | _ => none
  | .lrem => match st with
    | .long y :: .long x :: r => if y = 0 then none else some (pc + 1, ls, .long (x - x / y * y) :: r, hp)
    | _ => none
  | .lneg => zl1 (pc + 1) ls st hp (fun x => .long (-x))
  | .l2i => zl1 (pc + 1) ls st hp (fun x => .int x.toInt32)
  | .lcmp => match st with
    | .long y :: .long x :: r => some (pc + 1, ls, .int (lg_cmp x y) :: r, hp)
    | _ => none
  | .dup => match st with
    | v :: r => if v.category = 1 then some (pc + 1, ls, v :: v :: r, hp) else none
    | _ => none
  | .dup2 => match st with
    | v :: w :: r => if v.category = 1 ∧ w.category = 1 then some (pc + 1, ls, v :: w :: v :: w :: r, hp) else none
    | _ => none
  | .pop => match st with
    | v :: r => if v.category = 1 then some (pc + 1, ls, r, hp) else none
    | _ => none
  | .iaload => match st with
    | .int i :: .ref a :: r =>
      if zkd a = 100 ∧ zin i (zln a) = true then some (pc + 1, ls, .int (hp.1 a i.toNatClampNeg) :: r, hp)
      else if a = 900 ∧ c = 11 ∧ zin i (hp.1 901 0).toNatClampNeg = true then some (pc + 1, ls, .int (hp.1 900 i.toNatClampNeg) :: r, hp) else none
    | _ => none
  | .baload => match st with
    | .int i :: .ref a :: r => if (zkd a = 101 ∨ zkd a = 102) ∧ zin i (zln a) = true then some (pc + 1, ls, .int (hp.1 a i.toNatClampNeg) :: r, hp) else none
    | _ => none
  | .laload => match st with
    | .int i :: .ref a :: r => if zkd a = 103 ∧ zin i (zln a) = true then some (pc + 1, ls, .long (hp.2.1 a i.toNatClampNeg) :: r, hp) else none
    | _ => none
  | .aaload => match st with
    | .int i :: .ref a :: r => if zkd a = 104 ∧ zin i (zln a) = true then
        match hp.2.2 a i.toNatClampNeg with
        | some q => some (pc + 1, ls, .ref q :: r, hp)
        | none => none
      else none
    | _ => none
  | .iastore => match st with
    | .int x :: .int i :: .ref a :: r => if zkd a = 100 ∧ zin i (zln a) = true then some (pc + 1, ls, r, (zu hp.1 a i.toNatClampNeg x, hp.2.1, hp.2.2)) else none
    | _ => none
  | .bastore => match st with
    | .int x :: .int i :: .ref a :: r => if (zkd a = 101 ∨ zkd a = 102) ∧ zin i (zln a) = true then some (pc + 1, ls, r, (zu hp.1 a i.toNatClampNeg (vp_nar (if zkd a = 101 then .byte else .boolean) x), hp.2.1, hp.2.2)) else none
    | _ => none
  | .lastore => match st with
    | .long x :: .int i :: .ref a :: r => if zkd a = 103 ∧ zin i (zln a) = true then some (pc + 1, ls, r, (hp.1, zu hp.2.1 a i.toNatClampNeg x, hp.2.2)) else none
    | _ => none
  | .arraylength => match st with
    | .ref a :: r =>
      if 100 ≤ zkd a ∧ zkd a < 105 then some (pc + 1, ls, .int (Int32.ofNat (zln a)) :: r, hp)
      else if a = 900 ∧ c = 11 then some (pc + 1, ls, .int (hp.1 901 0) :: r, hp) else none
    | _ => none
  | .getfield k => match st, zfl c k with
    | .ref o :: r, some (ci, j) => zget (pc + 3) ls r hp o ci j
    | _, _ => none
  | .putfield k => match st, zfl c k with
    | v :: .ref o :: r, some (ci, j) => zput (pc + 3) ls r hp v o ci j
    | _, _ => none
  | .goto off => ztg pc off ls st hp
  | .ifCond cd off => match st with
    | .int x :: r => if zcmp cd x 0 = true then ztg pc off ls r hp else some (pc + 3, ls, r, hp)
    | _ => none
  | .if_icmp cd off => match st with
    | .int y :: .int x :: r => if zcmp cd x y = true then ztg pc off ls r hp else some (pc + 3, ls, r, hp)
    | _ => none
  | .tableswitch dflt lo hi offs => match st with
    | .int x :: r => match zsw pc dflt lo hi offs x with
      | some off => ztg pc off ls r hp
      | none => none
    | _ => none
  | .lookupswitch dflt ps => match st with
    | .int x :: r => if (ps.toList.zip (ps.toList.drop 1)).all (fun (a, next) => a.1 < next.1) = true then ztg pc (Op.lookupswitch.offset ps.toList dflt x.toInt) ls r hp else none
    | _ => none
  | _ => none
/-- how long an instruction is -/
def zlen (i : Instr) (n : Nat) : Bool := match i with
  | .bipush _ => n == 2
  | .sipush _ => n == 3
  | .ldc _ => n == 2
  | .ldc_w _ => n == 3
  | .ldc2_w _ => n == 3
  | .iload _ => n == 2
  | .lload _ => n == 2
  | .aload _ => n == 2
  | .istore _ => n == 2
  | .lstore _ => n == 2
  | .astore _ => n == 2
  | .iinc _ _ => n == 3
  | .getfield _ => n == 3
  | .putfield _ => n == 3
  | .goto _ => n == 3
  | .ifCond _ _ => n == 3
  | .if_icmp _ _ => n == 3
  | .invokevirtual _ => n == 3
  | .invokestatic _ => n == 3
  | .tableswitch _ _ _ _ => true
  | .lookupswitch _ _ => true
  | _ => n == 1
/-- a return: what is returned -/
def zrt (ret : Option FieldType) (i : Instr) (st : List Value) : Option (Option Value) := match i with
  | .ireturn => match st with
    | [.int v] => match ret with
      | some .int => some (some (.int v))
      | some .boolean => if v = 0 ∨ v = 1 then some (some (.int v)) else none
      | _ => none
    | _ => none
  | .lreturn => match st with
    | [.long v] => match ret with
      | some .long => some (some (.long v))
      | _ => none
    | _ => none
  | .return_ => match st with
    | [] => match ret with
      | none => some none
      | _ => none
    | _ => none
  | _ => none
/-- a call: who is called, with what, what is left below -/
def zcx (c : Nat) (i : Instr) (st : List Value) : Option (Nat × List Value × List Value) := match i with
  | .invokevirtual k => match zca c k, st with
    | some (y, n, 0), st => match st.drop n with
      | .ref b :: rest => if n ≤ st.length ∧ zcat rest ≤ 8 ∧ zkd b < 11 ∧ zcn (zkd b) = (zyOf y).cls ∧ y < 241 then some (y, .ref b :: (st.take n).reverse, rest) else none
      | _ => none
    | some (y, n, 2), st => match st.drop n with
      | .ref b :: rest => if n ≤ st.length ∧ zcat rest ≤ 8 ∧ b = 910 ∧ (y = 1000 ∨ y = 1001) then some (y, .ref b :: (st.take n).reverse, rest) else none
      | _ => none
    | _, _ => none
  | .invokestatic k => match zca c k with
    | some (y, n, kd) => if n ≤ st.length ∧ zcat (st.drop n) ≤ 8 ∧ ((kd = 1 ∧ y < 241) ∨ (kd = 2 ∧ (y = 1002 ∨ (1010 ≤ y ∧ y ≤ 1015)))) then some (y, (st.take n).reverse, st.drop n) else none
    | none => none
  | _ => none
/-- what is built in: length and charAt of the words, arraycopy -/
def zbi (y : Nat) (as : List Value) (hp : zHP) : Option (Option Value × zHP) :=
  if y = 1000 then match as with
    | [.ref 910] => some (some (.int (nI zwds.length)), hp)
    | _ => none
  else if y = 1001 then match as with
    | [.ref 910, .int k] => if zin k zwds.length = true then some (some (.int (zwds.getD k.toNatClampNeg 0)), hp) else none
    | _ => none
  else if y = 1002 then match as with
    | [.ref a, .int i, .ref b, .int j, .int n] =>
      if zkd a = 100 ∧ zkd b = 100 ∧ ¬ i < 0 ∧ ¬ j < 0 ∧ ¬ n < 0 ∧ i.toNatClampNeg + n.toNatClampNeg ≤ zln a ∧ j.toNatClampNeg + n.toNatClampNeg ≤ zln b then
        some (none, (va_up hp.1 b (va_cpy (hp.1 a) (hp.1 b) i.toNatClampNeg j.toNatClampNeg n.toNatClampNeg), hp.2.1, hp.2.2))
      else none
    | _ => none
  else if y = 1010 then match as with
    | [.int x, .int z] => some (some (.int (if x < z then z else x)), hp)
    | _ => none
  else if y = 1011 then match as with
    | [.int x, .int z] => some (some (.int (if z < x then z else x)), hp)
    | _ => none
  else if y = 1012 then match as with
    | [.int x] => some (some (.int (if 0 ≤ x then x else 0 - x)), hp)
    | _ => none
  else if y = 1013 then match as with
    | [.long x, .long z] => some (some (.long (if z < x then x else z)), hp)
    | _ => none
  else if y = 1014 then match as with
    | [.long x, .long z] => some (some (.long (if z < x then z else x)), hp)
    | _ => none
  else if y = 1015 then match as with
    | [.long x] => some (some (.long (if 0 < x then x else -x)), hp)
    | _ => none
  else none
/-- the locals at a method's start -/
def zent (n : Nat) (as : List Value) : zLs := (as.flatMap fun v => if v.category = 2 then [some v, none] else [some v]) ++ List.replicate (n - (as.flatMap fun v => if v.category = 2 then [some v, none] else [some v]).length) none
/-- the law's own places where the walk is broken off: behind a call's comparison, ahead of hand -/
def zexit (M pc : Nat) (ls : zLs) (st : List Value) : Option (Option Value) :=
  if M = 241 then match ls, st with
    | some (.ref 900) :: some (.ref 0) :: some (.ref 127) :: some (.ref 169) :: some (.int i) :: _, [] => if pc = 1473 then some (some (.float i.toUInt32)) else if pc = 348 then some (some (.long i.toInt64)) else none
    | _, _ => none
  else none
/-- a run of at most n steps, d calls deep at most, ends, and K holds of its answer and of the cells -/
def zWn : Nat → Nat → Nat → Nat → zLs → List Value → zHP → (Option Value → zHP → Prop) → Prop
  | 0, _, _, _, _, _, _, _ => False
  | n + 1, d, M, pc, ls, st, hp, K =>
    match zmt[M]? with
    | none => False
    | some mi =>
      match zexit M pc ls st with
      | some v => K v hp
      | none =>
      match decode mi.2.1 pc with
      | .error _ => False
      | .ok (i, len) =>
        if zlen i len = true then
          match zact mi.2.2.2.2 pc i ls st hp with
          | some r => zWn n d M r.1 r.2.1 r.2.2.1 r.2.2.2 K
          | none =>
            match zrt mi.2.2.2.1 i st with
            | some v => K v hp
            | none =>
              match zcx mi.2.2.2.2 i st with
              | none => False
              | some q =>
                match zbi q.1 q.2.1 hp with
                | some w => 5 ≤ d ∧ zWn n d M (pc + 3) ls (w.1.toList ++ q.2.2) w.2 K
                | none =>
                  match d, zmt[q.1]? with
                  | d' + 1, some my => q.1 < 241 ∧ (zent my.2.2.1 q.2.1).length = my.2.2.1 ∧ zWn n d' q.1 0 (zent my.2.2.1 q.2.1) [] hp (fun v hp' => zWn n d M (pc + 3) ls (v.toList ++ q.2.2) hp' K)
                  | _, _ => False
        else False

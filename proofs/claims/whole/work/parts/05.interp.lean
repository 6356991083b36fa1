/-! ===== the clean machine: an interpreter of the methods over a typed memory ===== -/
/-- (cells, their slots), the kind and length of each cell, references, ints, longs by cell and place -/
abbrev zMem : Type := (Nat × Nat) × (Nat → Nat × Nat) × (Nat → Nat → Option Nat) × (Nat → Nat → Int32) × (Nat → Nat → Int64)
abbrev zN (M : zMem) : Nat := M.1.1
abbrev zS (M : zMem) : Nat := M.1.2
abbrev zK (M : zMem) : Nat → Nat × Nat := M.2.1
abbrev zR (M : zMem) : Nat → Nat → Option Nat := M.2.2.1
abbrev zI (M : zMem) : Nat → Nat → Int32 := M.2.2.2.1
abbrev zJ (M : zMem) : Nat → Nat → Int64 := M.2.2.2.2
def zup {α : Type} (f : Nat → Nat → α) (a k : Nat) (v : α) : Nat → Nat → α := fun b j => if b = a then (if j = k then v else f b j) else f b j
def zrow {α : Type} (f : Nat → Nat → α) (a : Nat) (g : Nat → α) : Nat → Nat → α := fun b j => if b = a then g j else f b j
def zsetI (M : zMem) (a k : Nat) (x : Int32) : zMem := (M.1, M.2.1, M.2.2.1, zup M.2.2.2.1 a k x, M.2.2.2.2)
def zsetJ (M : zMem) (a k : Nat) (x : Int64) : zMem := (M.1, M.2.1, M.2.2.1, M.2.2.2.1, zup M.2.2.2.2 a k x)
def zsetR (M : zMem) (a k : Nat) (x : Option Nat) : zMem := (M.1, M.2.1, zup M.2.2.1 a k x, M.2.2.2.1, M.2.2.2.2)
def zrowI (M : zMem) (a : Nat) (g : Nat → Int32) : zMem := (M.1, M.2.1, M.2.2.1, zrow M.2.2.2.1 a g, M.2.2.2.2)
def znew (M : zMem) (kd len sl : Nat) : zMem := ((M.1.1 + 1, M.1.2 + sl), (fun b => if b = M.1.1 then (kd, len) else M.2.1 b), zrow M.2.2.1 M.1.1 (fun _ => none), zrow M.2.2.2.1 M.1.1 (fun _ => 0), zrow M.2.2.2.2 M.1.1 (fun _ => 0))
def zrv (r : Option Nat) : Value := match r with
  | some a => .ref a
  | none => .null
def zfv (M : zMem) (c a k : Nat) : Value := match zFc c k with
  | 1 => .long (zJ M a k)
  | 2 => zrv (zR M a k)
  | _ => .int (zI M a k)
def zset (M : zMem) (c a k : Nat) (v : Value) : Option zMem := match zFc c k, v with
  | 0, .int x => some (zsetI M a k x)
  | 1, .long x => some (zsetJ M a k x)
  | 2, .ref r => some (zsetR M a k (some r))
  | 2, .null => some (zsetR M a k none)
  | 3, .int x => if x = 0 ∨ x = 1 then some (zsetI M a k x) else none
  | _, _ => none
def zjmp (pc : Nat) (off : Int) : Option Nat := match (pc : Int) + off with
  | .ofNat t => some t
  | .negSucc _ => none
def zcmp (c : Jvm.ClassFile.Cond) (x y : Int32) : Bool := match c with
  | .eq => decide (x = y)
  | .ne => decide (¬ x = y)
  | .lt => decide (x < y)
  | .ge => decide (y ≤ x)
  | .gt => decide (y < x)
  | .le => decide (x ≤ y)
def zld (L : List (Option Value)) (i : Nat) : Option Value := match L[i]? with
  | some (some v) => some v
  | _ => none
def zclr (L : List (Option Value)) (i : Nat) : List (Option Value) := match i with
  | 0 => L
  | j + 1 => match zld L j with
    | some w => if w.category = 2 then L.set j none else L
    | none => L
def zst1 (L : List (Option Value)) (i : Nat) (v : Value) : List (Option Value) := (zclr L i).set i (some v)
def zst2 (L : List (Option Value)) (i : Nat) (v : Value) : List (Option Value) := ((zclr L i).set i (some v)).set (i + 1) none
def zcat (S : List Value) : Nat := (S.map fun v => v.category).sum
abbrev zSt : Type := Nat × List (Option Value) × List Value × zMem
abbrev zSc : Type := Nat × (Nat → Int32)
/-- CoastReader.ITEM -/
def zITEM : List Int32 := [119, 2, 6, 5, 104, 2, 5, 4, 111, 0, 99, 30, 107, 0, 99, 20, 118, 0, 3, 1, 120, 0, 5, 0, 121, 0, 4, 0, 110, 1, 9, 3, 97, 0, 5, 0, 107, 1, 9, 3, 120, 0, 5, 0, 121, 0, 4, 0]
def zitem (j : Nat) : Int32 := (zITEM[j]?).getD 0
def zi1 (pc : Nat) (L : List (Option Value)) (S : List Value) (M : zMem) (f : Int32 → Value) : Option zSt := match S with
  | .int x :: r => some (pc + 1, L, f x :: r, M)
  | _ => none
def zi2 (pc : Nat) (L : List (Option Value)) (S : List Value) (M : zMem) (f : Int32 → Int32 → Int32) : Option zSt := match S with
  | .int y :: .int x :: r => some (pc + 1, L, .int (f x y) :: r, M)
  | _ => none
def zid (pc : Nat) (L : List (Option Value)) (S : List Value) (M : zMem) (f : Int32 → Int32 → Int32) : Option zSt := match S with
  | .int y :: .int x :: r => if y = 0 then none else some (pc + 1, L, .int (f x y) :: r, M)
  | _ => none
def zl2 (pc : Nat) (L : List (Option Value)) (S : List Value) (M : zMem) (f : Int64 → Int64 → Int64) : Option zSt := match S with
  | .long y :: .long x :: r => some (pc + 1, L, .long (f x y) :: r, M)
  | _ => none
def zldn (pc : Nat) (L : List (Option Value)) (S : List Value) (M : zMem) (f : Int64 → Int64 → Int64) : Option zSt := match S with
  | .long y :: .long x :: r => if y = 0 then none else some (pc + 1, L, .long (f x y) :: r, M)
  | _ => none
def zlsh (pc : Nat) (L : List (Option Value)) (S : List Value) (M : zMem) (f : Int64 → Int32 → Int64) : Option zSt := match S with
  | .int y :: .long x :: r => some (pc + 1, L, .long (f x y) :: r, M)
  | _ => none
def zil (pc' i : Nat) (L : List (Option Value)) (S : List Value) (M : zMem) : Option zSt := match zld L i with
  | some (.int x) => some (pc', L, .int x :: S, M)
  | _ => none
def zll (pc' i : Nat) (L : List (Option Value)) (S : List Value) (M : zMem) : Option zSt := match zld L i with
  | some (.long x) => some (pc', L, .long x :: S, M)
  | _ => none
/-- a reference, null, or an old cell (a float: 0 the script, 1 ITEM, 2 the text) -/
def zal (pc' i : Nat) (L : List (Option Value)) (S : List Value) (M : zMem) : Option zSt := match zld L i with
  | some (.ref x) => some (pc', L, .ref x :: S, M)
  | some .null => some (pc', L, .null :: S, M)
  | some (.float x) => some (pc', L, .float x :: S, M)
  | _ => none
def zis (pc' i : Nat) (L : List (Option Value)) (S : List Value) (M : zMem) : Option zSt := match S with
  | .int x :: r => if i < L.length then some (pc', zst1 L i (.int x), r, M) else none
  | _ => none
def zls (pc' i : Nat) (L : List (Option Value)) (S : List Value) (M : zMem) : Option zSt := match S with
  | .long x :: r => if i + 1 < L.length then some (pc', zst2 L i (.long x), r, M) else none
  | _ => none
def zas (pc' i : Nat) (L : List (Option Value)) (S : List Value) (M : zMem) : Option zSt := match S with
  | .ref x :: r => if i < L.length then some (pc', zst1 L i (.ref x), r, M) else none
  | .null :: r => if i < L.length then some (pc', zst1 L i .null, r, M) else none
  | _ => none
/-- the place i of a row of kind kd, n places long -/
def zin (M : zMem) (a kd : Nat) (i : Int32) : Bool := decide ((zK M a).1 = kd) && decide (¬ (i < 0 ∨ (zK M a).2 ≤ i.toNatClampNeg))
def zisO (M : zMem) (a c : Nat) : Bool := decide ((zK M a).1 = c)
def zout (i : Int32) (n : Nat) : Bool := decide (i < 0 ∨ n ≤ i.toNatClampNeg)
def zst (own : Nat) (ini : Bool) (sc : zSc) (pc : Nat) (i : Instr) (L : List (Option Value)) (S : List Value) (M : zMem) : Option zSt := match i with
  | .iconst n => some (pc + 1, L, .int (Int32.ofInt n) :: S, M)
  | .bipush n => some (pc + 2, L, .int (Int8.ofInt n).toInt32 :: S, M)
  | .sipush n => some (pc + 3, L, .int (Int16.ofInt n).toInt32 :: S, M)
  | .lconst n => some (pc + 1, L, .long (Int64.ofNat (n : Nat)) :: S, M)
  | .aconst_null => some (pc + 1, L, .null :: S, M)
  | .iload_n k => zil (pc + 1) k L S M
  | .iload k => zil (pc + 2) k L S M
  | .lload_n k => zll (pc + 1) k L S M
  | .lload k => zll (pc + 2) k L S M
  | .aload_n k => zal (pc + 1) k L S M
  | .aload k => zal (pc + 2) k L S M
  | .istore_n k => zis (pc + 1) k L S M
  | .istore k => zis (pc + 2) k L S M
  | .lstore_n k => zls (pc + 1) k L S M
  | .lstore k => zls (pc + 2) k L S M
  | .astore_n k => zas (pc + 1) k L S M
  | .astore k => zas (pc + 2) k L S M
  | .iinc k n => match zld L k with
    | some (.int x) => if k < L.length then some (pc + 3, zst1 L k (.int (x + Int32.ofInt n)), S, M) else none
    | _ => none
  | .iadd => zi2 pc L S M (fun x y => x + y)
  | .isub => zi2 pc L S M (fun x y => x - y)
  | .imul => zi2 pc L S M (fun x y => x * y)
  | .iand => zi2 pc L S M (fun x y => x &&& y)
  | .ior => zi2 pc L S M (fun x y => x ||| y)
  | .ixor => zi2 pc L S M (fun x y => x ^^^ y)
  | .ishl => zi2 pc L S M (fun x y => x <<< (y &&& 31))
  | .ishr => zi2 pc L S M (fun x y => x >>> (y &&& 31))
  | .iushr => zi2 pc L S M (fun x y => (x.toUInt32 >>> (y.toUInt32 &&& Int32.toUInt32 31)).toInt32)
  | .idiv => zid pc L S M (fun x y => x / y)
  | .irem => zid pc L S M (fun x y => x - x / y * y)
  | .ineg => zi1 pc L S M (fun x => .int (-x))
  | .i2l => zi1 pc L S M (fun x => .long x.toInt64)
  | .i2c => zi1 pc L S M (fun x => .int (x.toUInt32 % 65536).toInt32)
  | .l2i => match S with
    | .long x :: r => some (pc + 1, L, .int x.toInt32 :: r, M)
    | _ => none
  | .ladd => zl2 pc L S M (fun x y => x + y)
  | .lsub => zl2 pc L S M (fun x y => x - y)
  | .lmul => zl2 pc L S M (fun x y => x * y)
  | .land => zl2 pc L S M (fun x y => x &&& y)
  | .lor => zl2 pc L S M (fun x y => x ||| y)
  | .ldiv => zldn pc L S M (fun x y => x / y)
  | .lrem => zldn pc L S M (fun x y => x - x / y * y)
  | .lshl => zlsh pc L S M (fun x y => x <<< (y.toInt64 &&& 63))
  | .lushr => zlsh pc L S M (fun x y => (x.toUInt64 >>> (y.toInt64.toUInt64 &&& Int64.toUInt64 63)).toInt64)
  | .lcmp => match S with
    | .long y :: .long x :: r => some (pc + 1, L, .int (lg_cmp x y) :: r, M)
    | _ => none
  | .dup => match S with
    | v :: r => if v.category = 1 then some (pc + 1, L, v :: v :: r, M) else none
    | _ => none
  | .dup2 => match S with
    | v :: w :: r => if v.category = 1 ∧ w.category = 1 then some (pc + 1, L, v :: w :: v :: w :: r, M) else none
    | _ => none
  | .pop => match S with
    | v :: r => if v.category = 1 then some (pc + 1, L, r, M) else none
    | _ => none
  | .goto off => (zjmp pc off).map (fun t => (t, L, S, M))
  | .if_icmp cd off => match S, zjmp pc off with
    | .int y :: .int x :: r, some t => if zcmp cd x y then some (t, L, r, M) else some (pc + 3, L, r, M)
    | _, _ => none
  | .ifCond cd off => match S, zjmp pc off with
    | .int x :: r, some t => if zcmp cd x 0 then some (t, L, r, M) else some (pc + 3, L, r, M)
    | _, _ => none
  | .ifnull off => match S with
    | .null :: r => (zjmp pc off).map (fun t => (t, L, r, M))
    | .ref _ :: r => some (pc + 3, L, r, M)
    | _ => none
  | .ifnonnull off => match S with
    | .null :: r => some (pc + 3, L, r, M)
    | .ref _ :: r => (zjmp pc off).map (fun t => (t, L, r, M))
    | _ => none
  | .tableswitch df lo hi offs => match S with
    | .int x :: r => if x.toInt < lo ∨ hi < x.toInt then (zjmp pc df).map (fun t => (t, L, r, M)) else (offs[(x.toInt - lo).toNat]?).bind (fun off => (zjmp pc off).map (fun t => (t, L, r, M)))
    | _ => none
  | .lookupswitch df ps => match S with
    | .int x :: r => if (ps.toList.zip (ps.toList.drop 1)).all (fun (a, next) => a.1 < next.1) = true then (zjmp pc (Op.lookupswitch.offset ps.toList df x.toInt)).map (fun t => (t, L, r, M)) else none
    | _ => none
  | .ldc idx => match zCl own idx with
    | some v => some (pc + 2, L, .int v :: S, M)
    | none => if (own = 4 ∧ idx = 40) ∨ (own = 5 ∧ idx = 95) then some (pc + 2, L, .float 2 :: S, M) else none
  | .ldc_w idx => match zCl own idx with
    | some v => some (pc + 3, L, .int v :: S, M)
    | none => none
  | .ldc2_w idx => match zC2 own idx with
    | some v => some (pc + 3, L, .long v :: S, M)
    | none => none
  | .getstatic idx => if own = 1 ∧ idx = 56 then some (pc + 3, L, .float 1 :: S, M) else none
  | .getfield idx => match zF own idx, S with
    | some (c, k), .ref a :: r => if zisO M a c then some (pc + 3, L, zfv M c a k :: r, M) else none
    | _, _ => none
  | .putfield idx => match zF own idx, S with
    | some (c, k), v :: .ref a :: r => if zisO M a c && (!((zFd c k).map Prod.snd).getD false || (ini && decide (own = c))) then (zset M c a k v).map (fun M' => (pc + 3, L, r, M')) else none
    | _, _ => none
  | .new idx => match zKl own idx with
    | some c => some (pc + 3, L, .ref (zN M) :: S, znew M c 0 (zNf c))
    | none => none
  | .newarray t => match t, S with
    | .int, .int n :: r => if ¬ n < 0 ∧ n.toNatClampNeg ≤ 1000000 then some (pc + 2, L, .ref (zN M) :: r, znew M 13 n.toNatClampNeg n.toNatClampNeg) else none
    | .boolean, .int n :: r => if ¬ n < 0 ∧ n.toNatClampNeg ≤ 1000000 then some (pc + 2, L, .ref (zN M) :: r, znew M 14 n.toNatClampNeg n.toNatClampNeg) else none
    | .long, .int n :: r => if ¬ n < 0 ∧ n.toNatClampNeg ≤ 1000000 then some (pc + 2, L, .ref (zN M) :: r, znew M 17 n.toNatClampNeg n.toNatClampNeg) else none
    | _, _ => none
  | .anewarray idx => match zKl own idx, S with
    | some 4, .int n :: r => if ¬ n < 0 ∧ n.toNatClampNeg ≤ 1000000 then some (pc + 3, L, .ref (zN M) :: r, znew M 15 n.toNatClampNeg n.toNatClampNeg) else none
    | some 8, .int n :: r => if ¬ n < 0 ∧ n.toNatClampNeg ≤ 1000000 then some (pc + 3, L, .ref (zN M) :: r, znew M 16 n.toNatClampNeg n.toNatClampNeg) else none
    | _, _ => none
  | .arraylength => match S with
    | .ref a :: r => if 13 ≤ (zK M a).1 ∧ (zK M a).1 ≤ 17 then some (pc + 1, L, .int (Int32.ofNat (zK M a).2) :: r, M) else none
    | .float f :: r => if f = 0 ∧ own = 13 then some (pc + 1, L, .int (Int32.ofNat sc.1) :: r, M) else if f = 1 then some (pc + 1, L, .int 48 :: r, M) else none
    | _ => none
  | .iaload => match S with
    | .int j :: .ref a :: r => if zin M a 13 j then some (pc + 1, L, .int (zI M a j.toNatClampNeg) :: r, M) else none
    | .int j :: .float f :: r => if f = 0 ∧ own = 13 then (if zout j sc.1 then none else some (pc + 1, L, .int (sc.2 j.toNatClampNeg) :: r, M)) else if f = 1 then (if zout j 48 then none else some (pc + 1, L, .int (zitem j.toNatClampNeg) :: r, M)) else none
    | _ => none
  | .baload => match S with
    | .int j :: .ref a :: r => if zin M a 14 j then some (pc + 1, L, .int (zI M a j.toNatClampNeg) :: r, M) else none
    | _ => none
  | .laload => match S with
    | .int j :: .ref a :: r => if zin M a 17 j then some (pc + 1, L, .long (zJ M a j.toNatClampNeg) :: r, M) else none
    | _ => none
  | .aaload => match S with
    | .int j :: .ref a :: r => if zin M a 15 j || zin M a 16 j then some (pc + 1, L, zrv (zR M a j.toNatClampNeg) :: r, M) else none
    | _ => none
  | .iastore => match S with
    | .int x :: .int j :: .ref a :: r => if zin M a 13 j then some (pc + 1, L, r, zsetI M a j.toNatClampNeg x) else none
    | _ => none
  | .bastore => match S with
    | .int x :: .int j :: .ref a :: r => if zin M a 14 j && decide (x = 0 ∨ x = 1) then some (pc + 1, L, r, zsetI M a j.toNatClampNeg x) else none
    | _ => none
  | .lastore => match S with
    | .long x :: .int j :: .ref a :: r => if zin M a 17 j then some (pc + 1, L, r, zsetJ M a j.toNatClampNeg x) else none
    | _ => none
  | .aastore => match S with
    | .ref v :: .int j :: .ref a :: r => if (zin M a 15 j && zisO M v 4) || (zin M a 16 j && zisO M v 8) then some (pc + 1, L, r, zsetR M a j.toNatClampNeg (some v)) else none
    | _ => none
  | _ => none
/-- the length in bytes of the instructions that zst knows, switches apart -/
def zwf (i : Instr) (len : Nat) : Bool := match i with
  | .tableswitch _ _ _ _ => true
  | .lookupswitch _ _ => true
  | .bipush _ | .iload _ | .lload _ | .aload _ | .istore _ | .lstore _ | .astore _ | .ldc _ | .newarray _ => decide (len = 2)
  | .sipush _ | .iinc _ _ | .goto _ | .if_icmp _ _ | .ifCond _ _ | .ifnull _ | .ifnonnull _ | .ldc_w _ | .ldc2_w _ | .getstatic _ | .getfield _ | .putfield _ | .new _ | .anewarray _ | .invokevirtual _ | .invokestatic _ | .invokespecial _ => decide (len = 3)
  | _ => decide (len = 1)
/-- "kfnvto".indexOf -/
def zidx (c : Int32) : Int32 := if c = 107 then 0 else if c = 102 then 1 else if c = 110 then 2 else if c = 118 then 3 else if c = 116 then 4 else if c = 111 then 5 else -1
/-- the JDK's own methods -/
def zsp (id : Nat) (S : List Value) (M : zMem) : Option (List Value × zMem) := match id, S with
  | 1000, .ref _ :: r => if zcat r ≤ 8 then some (r, M) else none
  | 1001, .int y :: .int x :: r => if zcat r ≤ 8 then some (.int (if y < x then y else x) :: r, M) else none
  | 1002, .int y :: .int x :: r => if zcat r ≤ 8 then some (.int (if x < y then y else x) :: r, M) else none
  | 1003, .int x :: r => if zcat r ≤ 8 then some (.int (if 0 ≤ x then x else 0 - x) :: r, M) else none
  | 1004, .long y :: .long x :: r => if zcat r ≤ 8 then some (.long (if y < x then y else x) :: r, M) else none
  | 1005, .long y :: .long x :: r => if zcat r ≤ 8 then some (.long (if y < x then x else y) :: r, M) else none
  | 1006, .float f :: r => if f = 2 ∧ zcat r ≤ 8 then some (.int 6 :: r, M) else none
  | 1007, .int x :: .float f :: r => if f = 2 ∧ zcat r ≤ 8 ∧ ¬ x < 0 then some (.int (zidx x) :: r, M) else none
  | 1008, .int n :: .int dp :: .ref b :: .int sp :: .ref a :: r => if zcat r ≤ 8 ∧ zisO M a 13 ∧ zisO M b 13 ∧ ¬ sp < 0 ∧ ¬ dp < 0 ∧ ¬ n < 0 ∧ sp.toNatClampNeg + n.toNatClampNeg ≤ (zK M a).2 ∧ dp.toNatClampNeg + n.toNatClampNeg ≤ (zK M b).2 then some (r, zrowI M b (va_cpy (zI M a) (zI M b) sp.toNatClampNeg dp.toNatClampNeg n.toNatClampNeg)) else none
  | _, _ => none
def zent0 (vs : List Value) : List (Option Value) := vs.flatMap fun v => if v.category = 2 then [some v, none] else [some v]
def zent (vs : List Value) (n : Nat) : List (Option Value) := zent0 vs ++ List.replicate (n - (zent0 vs).length) none
/-- a method's code: its class, whether it is a constructor, what it returns, its instructions -/
abbrev zCd : Type := Nat × Bool × Option FieldType × List (Nat × Instr × Nat)
def zcd (e : zE_) : zCd := (e.2.2.2.2.1, decide (e.2.2.2.2.2.2.1 = 2), e.2.2.2.1, e.2.2.2.2.2.2.2)
def zret (r : Option FieldType) (i : Instr) (S : List Value) : Option (Option Value) := match i, S, r with
  | .ireturn, [.int v], some .int => some (some (.int v))
  | .ireturn, [.int v], some .boolean => if v = 0 ∨ v = 1 then some (some (.int v)) else none
  | .areturn, [.ref a], some (.object _) => some (some (.ref a))
  | .areturn, [.null], some (.object _) => some (some .null)
  | .return_, [], none => some none
  | _, _, _ => none
def zcalle (own idx kd : Nat) : Option zE_ := match zM own idx with
  | some k => zMt k
  | none => if kd = 2 then (zNl own idx).bind zMt else none
def zrecv (e : zE_) (kd : Nat) (S : List Value) (M : zMem) (n : Nat) : Bool := match kd with
  | 0 => true
  | 1 => match S[n - 1]? with
    | some (.ref a) => zisO M a e.2.2.2.2.1 && decide (e.2.2.2.2.1 < 13)
    | _ => false
  | _ => match S[n - 1]? with
    | some (.ref _) => true
    | _ => false
def zna (e : zE_) (kd : Nat) : Nat := e.2.2.2.2.2.1 + (if kd = 0 then 0 else 1)
def zokc (e : zE_) (kd : Nat) (S : List Value) (M : zMem) : Bool := decide (e.2.2.2.2.2.2.1 = kd) && (decide (zna e kd ≤ S.length) && (decide (zcat (S.drop (zna e kd)) ≤ 8) && (decide ((zent0 (S.take (zna e kd)).reverse).length ≤ e.2.2.1) && (decide (e.2.2.1 ≤ 40) && zrecv e kd S M (zna e kd)))))
abbrev zHp : Type := List Value → zMem → Option (List Value × zMem)
def zxk (id : Nat) : Nat := if id = 1000 then 2 else if id = 1006 ∨ id = 1007 then 1 else 0
def zinv (d : Nat) (rc : zCd → List (Option Value) → zMem → Option (Option Value × zMem)) (hp : zHp) (own kd idx : Nat) (S : List Value) (M : zMem) : Option (List Value × zMem) := match zcalle own idx kd with
  | some e => if zokc e kd S M then
      match rc (zcd e) (zent (S.take (zna e kd)).reverse e.2.2.1) M with
      | some (v, M') => some (v.toList ++ S.drop (zna e kd), M')
      | none => none
    else none
  | none => match zX own idx with
    | some id => if id = 1009 then (if kd = 0 ∧ 16 ≤ d then hp S M else none) else if kd = zxk id ∧ (¬ (id = 1006 ∨ id = 1007) ∨ 16 ≤ d) then zsp id S M else none
    | none => none
/-- 0 a return, 1 to 3 a call and its number, 4 all else -/
def zcls (i : Instr) : Nat × Nat := match i with
  | .ireturn => (0, 0)
  | .areturn => (0, 0)
  | .return_ => (0, 0)
  | .invokestatic idx => (1, idx)
  | .invokevirtual idx => (2, idx)
  | .invokespecial idx => (3, idx)
  | _ => (4, 0)
def zex : Nat → Nat → zSc → zHp → zCd → Nat → List (Option Value) → List Value → zMem → Option (Option Value × zMem)
  | 0, _, _, _, _, _, _, _, _ => none
  | N + 1, d, sc, hp, cd, pc, L, S, M => match zlk cd.2.2.2 pc with
    | none => none
    | some (i, len) => if zwf i len then (match zcls i with
      | (0, _) => (zret cd.2.2.1 i S).map (fun v => (v, M))
      | (4, _) => (match zst cd.1 cd.2.1 sc pc i L S M with
        | some (pc', L', S', M') => zex N d sc hp cd pc' L' S' M'
        | none => none)
      | (k + 1, idx) => (match d with
        | 0 => none
        | d' + 1 => match zinv d' (fun c L M => zex N d' sc hp c 0 L [] M) hp cd.1 k idx S M with
          | some (S', M') => zex N (d' + 1) sc hp cd (pc + 3) L S' M'
          | none => none)) else none

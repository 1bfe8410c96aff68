/-! each instruction of each method: decoded, its links and operands as they are -/
def zfq (o i a b : Nat) : Bool := zfp.any (fun e => Nat.beq e.1 o && Nat.beq e.2.1 i && Nat.beq e.2.2.1 a && Nat.beq e.2.2.2.1 b)
def zmq (o i a k : Nat) : Bool := zmp.any (fun e => Nat.beq e.1 o && Nat.beq e.2.1 i && Nat.beq e.2.2.1 a && Nat.beq e.2.2.2.1 k)
def zcq (o i a : Nat) : Bool := zcp.any (fun e => Nat.beq e.1 o && Nat.beq e.2.1 i && Nat.beq e.2.2.1 a)
def zkq (o i : Nat) (x : Int32) : Bool := zkp.any (fun e => Nat.beq e.1 o && Nat.beq e.2.1 i && decide (e.2.2.1 = x))
def zlq (o i : Nat) (x : Int64) : Bool := zlp.any (fun e => Nat.beq e.1 o && Nat.beq e.2.1 i && decide (e.2.2.1 = x))
def zvq (a : Nat) (v : Value) : Bool := match v with
  | .null => decide (zalc a = (0, 0))
  | .ref n => decide (zalc a = (n / 1000000, n % 1000000))
  | _ => false
def zokI (mi pc len : Nat) (ins : Instr) (a b c : Nat) (v : Value) : Bool := match ins with
  | .iload i => decide (a = i) && decide (len = 2)
  | .iload_n i => decide (a = i.val) && decide (len = 1)
  | .aload i => decide (a = i) && decide (len = 2)
  | .aload_n i => decide (a = i.val) && decide (len = 1)
  | .lload_n i => decide (a = i.val) && decide (len = 1)
  | .istore i => decide (a = i) && decide (len = 2) && decide (a < znl mi) && zlg mi
  | .istore_n i => decide (a = i.val) && decide (len = 1) && decide (a < znl mi) && zlg mi
  | .astore i => decide (a = i) && decide (len = 2) && decide (a < znl mi) && zlg mi
  | .astore_n i => decide (a = i.val) && decide (len = 1) && decide (a < znl mi) && zlg mi
  | .iinc i n => decide (a = i) && decide (len = 3) && decide (a < znl mi) && zlg mi && decide (v = .int (Int32.ofInt n))
  | .iconst n => decide (v = .int (Int32.ofInt n)) && decide (len = 1)
  | .bipush n => decide (v = .int (Int8.ofInt n).toInt32) && decide (len = 2)
  | .sipush n => decide (v = .int (Int16.ofInt n).toInt32) && decide (len = 3)
  | .lconst n => decide (v = .long (Int64.ofNat n.val)) && decide (len = 1)
  | .ldc i => decide (len = 2) && (match v with
    | .int x => zkq (zoc mi) i x
    | .retAddr k => (decide (k = 3) && decide (zoc mi = 5) && decide (i = 29)) || (decide (k = 4) && decide (zoc mi = 5) && decide (i = 171))
    | _ => false)
  | .ldc_w i => decide (len = 3) && (match v with
    | .int x => zkq (zoc mi) i x
    | _ => false)
  | .ldc2_w i => decide (len = 3) && (match v with
    | .long x => zlq (zoc mi) i x
    | _ => false)
  | .getstatic i => decide (len = 3) && ((decide (v = .retAddr 2) && decide (zoc mi = 4) && decide (i = 89)) || (decide (v = .int 1) && decide (zoc mi = 13) && decide (i = 38)) || (decide (v = .retAddr 7) && decide (zoc mi = 13) && decide (i = 1053)))
  | .iadd => decide (len = 1)
  | .isub => decide (len = 1)
  | .imul => decide (len = 1)
  | .iand => decide (len = 1)
  | .ior => decide (len = 1)
  | .ixor => decide (len = 1)
  | .ishl => decide (len = 1)
  | .ishr => decide (len = 1)
  | .iushr => decide (len = 1)
  | .idiv => decide (len = 1)
  | .irem => decide (len = 1)
  | .ineg => decide (len = 1)
  | .i2b => decide (len = 1)
  | .i2c => decide (len = 1)
  | .i2l => decide (len = 1)
  | .lcmp => decide (len = 1)
  | .lor => decide (len = 1)
  | .lshl => decide (len = 1)
  | .if_icmp _ o => decide (len = 3) && decide ((pc : Int) + o = (a : Int))
  | .ifCond _ o => decide (len = 3) && decide ((pc : Int) + o = (a : Int))
  | .goto o => decide (len = 3) && decide ((pc : Int) + o = (a : Int))
  | .tableswitch d lo hi os => decide (0 ≤ (pc : Int) + d) && os.toList.all (fun o => decide (0 ≤ (pc : Int) + o)) && decide (hi - lo + 1 = (os.toList.length : Int)) && decide (-1000 ≤ lo) && decide (hi ≤ 1000)
  | .lookupswitch d ps => decide (0 ≤ (pc : Int) + d) && ps.toList.all (fun o => decide (0 ≤ (pc : Int) + o.2) && decide (-1000 ≤ o.1) && decide (o.1 ≤ 1000)) && (ps.toList.zip (ps.toList.drop 1)).all (fun (a, next) => decide (a.1 < next.1))
  | .dup => decide (len = 1)
  | .dup2 => decide (len = 1)
  | .pop => decide (len = 1)
  | .getfield i => decide (len = 3) && zfq (zoc mi) i a b && (decide (a = 99) || (decide (a < 9) && decide (b < (zcls a).2.2) && decide (c = ztc (zTy a b))))
  | .putfield i => decide (len = 3) && zfq (zoc mi) i a b && decide (a < 9) && decide (b < (zcls a).2.2) && decide (c = ztc (zTy a b)) && (decide (((zcls a).2.1 b).2.2.2 = false) || (decide (((zcls a).2.1 b).2.2.2 = true) && decide ((zy mi).name = "<init>") && decide (((zcls a).2.1 b).1 = zow mi)))
  | .iaload => decide (len = 1)
  | .baload => decide (len = 1) && (decide (c = 1) || decide (c = 2))
  | .laload => decide (len = 1)
  | .aaload => decide (len = 1)
  | .iastore => decide (len = 1)
  | .bastore => decide (len = 1) && (decide (c = 1) || decide (c = 2))
  | .lastore => decide (len = 1)
  | .aastore => decide (len = 1)
  | .arraylength => decide (len = 1)
  | .new i => decide (len = 3) && zcq (zoc mi) i a && decide (a < 9) && decide (b = (zcls a).2.2)
  | .newarray t => decide (len = 2) && ((decide (a = 0) && decide (t = .int)) || (decide (a = 1) && decide (t = .byte)) || (decide (a = 2) && decide (t = .boolean)) || (decide (a = 3) && decide (t = .long)))
  | .anewarray i => decide (len = 3) && zcq (zoc mi) i 6
  | .invokevirtual i => decide (len = 3) && decide (zoc a = c / 4) && (decide (c / 4 < 9) || decide (c / 4 = 13)) && decide (1 ≤ b) && zmq (zoc mi) i a 0 && zpn a (b - 1) && zmh a && zvq a v && decide (a < 283)
  | .invokestatic i => decide (len = 3) && (match c with
    | 8 => zmq (zoc mi) i 1000 8
    | _ => (zmq (zoc mi) i a 1 || zmq (zoc mi) i a 2) && zpn a b && zmh a && zvq a v && decide (a < 283))
  | .invokespecial i => decide (len = 3) && (match c with
    | 9 => zmq (zoc mi) i 1001 9
    | _ => decide (1 ≤ b) && (zmq (zoc mi) i a 3 || zmq (zoc mi) i a 4) && zpn a (b - 1) && zmh a && zvq a v && decide (a < 283))
  | .ireturn => decide (len = 1) && ((decide (c = 2) && decide (zrt mi = some .boolean)) || (decide (c = 5) && decide (zrt mi = some .char)) || (decide (c = 1) && decide (zrt mi = some .byte)) || (decide (c = 0) && decide (zrt mi = some .int)))
  | .areturn => decide (len = 1) && decide (zrt mi = some (.object "BowHouse$State"))
  | .return_ => decide (len = 1) && decide (zrt mi = none)
  | _ => false
def zokb (mi : Nat) (e : zE) : Bool := match e with
  | (pc, len, ins, a, b, c, v) => decide (decode (zbs mi) pc = .ok (ins, len)) && zokI mi pc len ins a b c v

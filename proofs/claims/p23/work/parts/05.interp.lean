/-! ===== THE PURE MACHINE: cells by their addresses, the next address, how many slots have been made; a step, a run, what a run comes to ===== -/
abbrev zLc : Type := List (Option Value)
abbrev zCel : Type := Nat × List Value
abbrev zPH : Type := (Nat → Option zCel) × Nat × Nat
abbrev zCfg : Type := Nat × zLc × List Value × zPH
abbrev zOut : Type := Option Value ⊕ Nat
/-- what the start gives: statics, texts -/
abbrev zEnv : Type := (Nat → Value) × (Nat → Nat)
def zlk {α : Type} : List (Nat × α) → Nat → Option α
  | [], _ => none
  | (k, x) :: r, n => match Nat.beq k n with
    | true => some x
    | false => zlk r n
def zins (j pc : Nat) : Option (Instr × Nat × zAux) := match zcs[j / 30]? with
  | some l => match l[j % 30]? with
    | some c => match c[pc / 32]? with
      | some b => zlk b pc
      | none => none
    | none => none
  | none => none
def zrt (j : Nat) : Option FieldType := match zmd j with
  | some r => r.2.2.2.1
  | none => none
def zcl1 : Option Value → Option Value
  | some (.int x) => some (.int x)
  | some (.ref a) => some (.ref a)
  | some .null => some .null
  | some (.float x) => some (.float x)
  | _ => none
/-- a place behind which something is laid holds no long half -/
def zmod : zLc → Nat → zLc
  | [], _ => []
  | x :: r, 0 => zcl1 x :: r
  | x :: r, k + 1 => x :: zmod r k
def zpre (ls : zLc) : Nat → zLc
  | 0 => ls
  | k + 1 => zmod ls k
def zput (ls : zLc) (k : Nat) (v : Option Value) : zLc := (zpre ls k).set k v
def zput2 (ls : zLc) (k : Nat) (v : Value) : zLc := (zput ls k (some v)).set (k + 1) none
def zget {α : Type} (bot : α) (ls : zLc) (k : Nat) (K : Value → α) : α := match ls[k]? with
  | some (some v) => K v
  | _ => bot
def zset (h : zPH) (a : Nat) (c : zCel) : zPH := (fun b => if b = a then some c else h.1 b, h.2.1, h.2.2)
def zalloc (h : zPH) (c : zCel) (n : Nat) : zPH := (fun b => if b = h.2.1 then some c else h.1 b, h.2.1 + 1, h.2.2 + n)
/-- new int[n][k] -/
def zrefs (q s : Nat) : Nat → List Value
  | 0 => []
  | n + 1 => .ref q :: zrefs (q + s) s n
def zalloc2 (h : zPH) (n k : Nat) : zPH := (fun b => if b = h.2.1 then some (66, zrefs (h.2.1 + 1) 1 n) else if h.2.1 < b ∧ b ≤ h.2.1 + n then some (64, List.replicate k (.int 0)) else h.1 b, h.2.1 + (1 + n), h.2.2 + (n + n * k))
/-- new int[n][k][r] -/
def zalloc3 (h : zPH) (n k r : Nat) : zPH := (fun b => if b = h.2.1 then some (67, zrefs (h.2.1 + 1) (1 + k) n) else if h.2.1 < b ∧ b ≤ h.2.1 + n * (1 + k) then (if (b - h.2.1 - 1) % (1 + k) = 0 then some (66, zrefs (b + 1) 1 k) else some (64, List.replicate r (.int 0))) else h.1 b, h.2.1 + (1 + n * (1 + k)), h.2.2 + (n + n * (k + k * r)))
/-- an object's cell of the tag t -/
def zob {α : Type} (bot : α) (h : zPH) (v : Value) (t : Nat) (K : Nat → List Value → α) : α := match v with
  | .ref a => match h.1 a with
    | some (t', vs) => match Nat.beq t' t with
      | true => K a vs
      | false => bot
    | none => bot
  | _ => bot
/-- any cell -/
def zan {α : Type} (bot : α) (h : zPH) (v : Value) (K : Nat → Nat → List Value → α) : α := match v with
  | .ref a => match h.1 a with
    | some (t, vs) => K a t vs
    | none => bot
  | _ => bot
def zix {α : Type} (bot : α) (vs : List Value) (k : Nat) (K : Value → α) : α := match vs[k]? with
  | some v => K v
  | none => bot
/-- a place of an array -/
def zel {α : Type} (bot : α) (vs : List Value) (i : Int32) (K : Nat → Value → α) : α := if i < 0 then bot else match vs[i.toNatClampNeg]? with
  | some v => K i.toNatClampNeg v
  | none => bot
def zif {α : Type} (bot : α) (b : Bool) (K : α) : α := match b with
  | true => K
  | false => bot
/-- does a field of this kind take the value -/
def zfit : Nat → Value → Bool
  | 0, .int _ => true
  | 1, .int x => x == 0 || x == 1
  | 2, .int x => x.toInt8.toInt32 == x
  | 3, .long _ => true
  | 4, .double _ => true
  | 5, .float _ => true
  | 6, .ref _ => true
  | 6, .null => true
  | 7, .ref _ => true
  | 7, .null => true
  | _, _ => false
def zcat : Value → Nat
  | .long _ => 2
  | .double _ => 2
  | _ => 1
def zwt : List Value → Nat
  | [] => 0
  | v :: r => zcat v + zwt r
def zsp : Nat → List Value → List Value → Option (List Value × List Value)
  | 0, acc, st => some (acc, st)
  | _ + 1, _, [] => none
  | n + 1, acc, v :: st => zsp n (v :: acc) st
/-- may an object of the tag tb be laid into an array of the tag t -/
def zasg (t tb : Nat) : Bool := match t with
  | 69 => zobj.contains tb
  | 68 => Nat.beq tb 4
  | 67 => Nat.beq tb 66
  | 66 => Nat.beq tb 64
  | _ => false
def ztg (pc : Nat) (off : Int) : Nat := ((pc : Int) + off).toNat
def zcond (k : ClassFile.Cond) (x y : Int32) : Bool := match k with
  | .eq => decide (x = y)
  | .ne => !decide (x = y)
  | .lt => decide (x < y)
  | .ge => decide (y ≤ x)
  | .gt => decide (y < x)
  | .le => decide (x ≤ y)
def zn32 (r : UInt32) : Bool := decide (r &&& 0x7fffffff ≤ 0x7f800000)
def zn64 (r : UInt64) : Bool := decide (r &&& 0x7fffffffffffffff ≤ 0x7ff0000000000000)
def zcpy (f g : List Value) (sp dp n : Nat) : List Value := g.take dp ++ ((f.drop sp).take n ++ g.drop (dp + n))
/-- what a copied element of an array of this tag must fit -/
def zcpf (t : Nat) : Nat := match t with
  | 64 => 0
  | _ => 2
def zbr {α : Type} (b : Bool) (x y : α) : α := if b = true then x else y
def zstv (v : Value) : Bool := match v with
  | .ref _ => true
  | .null => true
  | _ => false
/-- one instruction: bot where it isn't told; K what comes next; R the method's end; C a call -/
def zact {α : Type} (bot : α) (E : zEnv) (rt : Option FieldType) (i : Instr) (n : Nat) (x : zAux) (pc : Nat) (ls : zLc) (st : List Value) (h : zPH) (K : zCfg → α) (R : zOut → zPH → α) (C : Nat → List Value → List Value → α) : α := match i with
  | .iconst k => K (pc + n, ls, .int (Int32.ofInt k) :: st, h)
  | .bipush k => K (pc + n, ls, .int (Int8.ofInt k).toInt32 :: st, h)
  | .sipush k => K (pc + n, ls, .int (Int16.ofInt k).toInt32 :: st, h)
  | .lconst k => K (pc + n, ls, .long (Int64.ofNat k.val) :: st, h)
  | .fconst k => match k with
    | 0 => K (pc + n, ls, .float FP.fconst0 :: st, h)
    | 1 => K (pc + n, ls, .float FP.fconst1 :: st, h)
    | _ => bot
  | .dconst k => match k with
    | 0 => K (pc + n, ls, .double FP.dconst0 :: st, h)
    | 1 => K (pc + n, ls, .double FP.dconst1 :: st, h)
  | .aconst_null => K (pc + n, ls, .null :: st, h)
  | .ldc _ => match x.1 with
    | 0 => match x.2.2.2.2 with
      | .int v => K (pc + n, ls, .int v :: st, h)
      | _ => bot
    | 1 => K (pc + n, ls, .ref (E.2 x.2.1) :: st, h)
    | _ => bot
  | .ldc_w _ => match x.1 with
    | 0 => match x.2.2.2.2 with
      | .int v => K (pc + n, ls, .int v :: st, h)
      | _ => bot
    | _ => bot
  | .ldc2_w _ => match x.1 with
    | 0 => match x.2.2.2.2 with
      | .long v => K (pc + n, ls, .long v :: st, h)
      | .double v => K (pc + n, ls, .double v :: st, h)
      | _ => bot
    | _ => bot
  | .iload k => zget bot ls k fun v => match v with
    | .int y => K (pc + n, ls, .int y :: st, h)
    | _ => bot
  | .iload_n k => zget bot ls k.val fun v => match v with
    | .int y => K (pc + n, ls, .int y :: st, h)
    | _ => bot
  | .lload k => zget bot ls k fun v => match v with
    | .long y => K (pc + n, ls, .long y :: st, h)
    | _ => bot
  | .lload_n k => zget bot ls k.val fun v => match v with
    | .long y => K (pc + n, ls, .long y :: st, h)
    | _ => bot
  | .dload k => zget bot ls k fun v => match v with
    | .double y => K (pc + n, ls, .double y :: st, h)
    | _ => bot
  | .dload_n k => zget bot ls k.val fun v => match v with
    | .double y => K (pc + n, ls, .double y :: st, h)
    | _ => bot
  | .fload k => zget bot ls k fun v => match v with
    | .float y => K (pc + n, ls, .float y :: st, h)
    | _ => bot
  | .fload_n k => zget bot ls k.val fun v => match v with
    | .float y => K (pc + n, ls, .float y :: st, h)
    | _ => bot
  | .aload k => zget bot ls k fun v => match v with
    | .ref a => K (pc + n, ls, .ref a :: st, h)
    | .null => K (pc + n, ls, .null :: st, h)
    | _ => bot
  | .aload_n k => zget bot ls k.val fun v => match v with
    | .ref a => K (pc + n, ls, .ref a :: st, h)
    | .null => K (pc + n, ls, .null :: st, h)
    | _ => bot
  | .istore k => match st with
    | .int y :: r => zif bot (Nat.blt k ls.length) (K (pc + n, zput ls k (some (.int y)), r, h))
    | _ => bot
  | .istore_n k => match st with
    | .int y :: r => zif bot (Nat.blt k.val ls.length) (K (pc + n, zput ls k.val (some (.int y)), r, h))
    | _ => bot
  | .lstore k => match st with
    | .long y :: r => zif bot (Nat.blt (k + 1) ls.length) (K (pc + n, zput2 ls k (.long y), r, h))
    | _ => bot
  | .lstore_n k => match st with
    | .long y :: r => zif bot (Nat.blt (k.val + 1) ls.length) (K (pc + n, zput2 ls k.val (.long y), r, h))
    | _ => bot
  | .dstore k => match st with
    | .double y :: r => zif bot (Nat.blt (k + 1) ls.length) (K (pc + n, zput2 ls k (.double y), r, h))
    | _ => bot
  | .dstore_n k => match st with
    | .double y :: r => zif bot (Nat.blt (k.val + 1) ls.length) (K (pc + n, zput2 ls k.val (.double y), r, h))
    | _ => bot
  | .fstore k => match st with
    | .float y :: r => zif bot (Nat.blt k ls.length) (K (pc + n, zput ls k (some (.float y)), r, h))
    | _ => bot
  | .fstore_n k => match st with
    | .float y :: r => zif bot (Nat.blt k.val ls.length) (K (pc + n, zput ls k.val (some (.float y)), r, h))
    | _ => bot
  | .astore k => match st with
    | .ref a :: r => zif bot (Nat.blt k ls.length) (K (pc + n, zput ls k (some (.ref a)), r, h))
    | .null :: r => zif bot (Nat.blt k ls.length) (K (pc + n, zput ls k (some .null), r, h))
    | _ => bot
  | .astore_n k => match st with
    | .ref a :: r => zif bot (Nat.blt k.val ls.length) (K (pc + n, zput ls k.val (some (.ref a)), r, h))
    | .null :: r => zif bot (Nat.blt k.val ls.length) (K (pc + n, zput ls k.val (some .null), r, h))
    | _ => bot
  | .iinc k m => zget bot ls k fun v => match v with
    | .int y => zif bot (Nat.blt k ls.length) (K (pc + n, zput ls k (some (.int (y + Int32.ofInt m))), st, h))
    | _ => bot
  | .pop => match st with
    | v :: r => zif bot (Nat.beq (zcat v) 1) (K (pc + n, ls, r, h))
    | _ => bot
  | .pop2 => match st with
    | v :: r => zif bot (Nat.beq (zcat v) 2) (K (pc + n, ls, r, h))
    | _ => bot
  | .dup => match st with
    | v :: r => zif bot (Nat.beq (zcat v) 1) (K (pc + n, ls, v :: v :: r, h))
    | _ => bot
  | .dup_x1 => match st with
    | v :: w :: r => zif bot (Nat.beq (zcat v) 1) (zif bot (Nat.beq (zcat w) 1) (K (pc + n, ls, v :: w :: v :: r, h)))
    | _ => bot
  | .dup2 => match st with
    | v :: w :: r => zif bot (Nat.beq (zcat v) 1) (zif bot (Nat.beq (zcat w) 1) (K (pc + n, ls, v :: w :: v :: w :: r, h)))
    | _ => bot
  | .iadd => match st with
    | .int b :: .int a :: r => K (pc + n, ls, .int (a + b) :: r, h)
    | _ => bot
  | .isub => match st with
    | .int b :: .int a :: r => K (pc + n, ls, .int (a - b) :: r, h)
    | _ => bot
  | .imul => match st with
    | .int b :: .int a :: r => K (pc + n, ls, .int (a * b) :: r, h)
    | _ => bot
  | .idiv => match st with
    | .int b :: .int a :: r => zif bot (!decide (b = 0)) (K (pc + n, ls, .int (a / b) :: r, h))
    | _ => bot
  | .irem => match st with
    | .int b :: .int a :: r => zif bot (!decide (b = 0)) (K (pc + n, ls, .int (a - a / b * b) :: r, h))
    | _ => bot
  | .ineg => match st with
    | .int a :: r => K (pc + n, ls, .int (-a) :: r, h)
    | _ => bot
  | .iand => match st with
    | .int b :: .int a :: r => K (pc + n, ls, .int (a &&& b) :: r, h)
    | _ => bot
  | .ior => match st with
    | .int b :: .int a :: r => K (pc + n, ls, .int (a ||| b) :: r, h)
    | _ => bot
  | .ixor => match st with
    | .int b :: .int a :: r => K (pc + n, ls, .int (a ^^^ b) :: r, h)
    | _ => bot
  | .ishl => match st with
    | .int b :: .int a :: r => K (pc + n, ls, .int (a <<< (b &&& 31)) :: r, h)
    | _ => bot
  | .ishr => match st with
    | .int b :: .int a :: r => K (pc + n, ls, .int (a >>> (b &&& 31)) :: r, h)
    | _ => bot
  | .iushr => match st with
    | .int b :: .int a :: r => K (pc + n, ls, .int (a.toUInt32 >>> (b.toUInt32 &&& Int32.toUInt32 31)).toInt32 :: r, h)
    | _ => bot
  | .ladd => match st with
    | .long b :: .long a :: r => K (pc + n, ls, .long (a + b) :: r, h)
    | _ => bot
  | .lmul => match st with
    | .long b :: .long a :: r => K (pc + n, ls, .long (a * b) :: r, h)
    | _ => bot
  | .lcmp => match st with
    | .long b :: .long a :: r => K (pc + n, ls, .int (lg_cmp a b) :: r, h)
    | _ => bot
  | .dadd => match st with
    | .double b :: .double a :: r => zif bot (zn64 (FP.dadd a b)) (K (pc + n, ls, .double (FP.dadd a b) :: r, h))
    | _ => bot
  | .dsub => match st with
    | .double b :: .double a :: r => zif bot (zn64 (FP.dsub a b)) (K (pc + n, ls, .double (FP.dsub a b) :: r, h))
    | _ => bot
  | .dmul => match st with
    | .double b :: .double a :: r => zif bot (zn64 (FP.dmul a b)) (K (pc + n, ls, .double (FP.dmul a b) :: r, h))
    | _ => bot
  | .ddiv => match st with
    | .double b :: .double a :: r => zif bot (zn64 (FP.ddiv a b)) (K (pc + n, ls, .double (FP.ddiv a b) :: r, h))
    | _ => bot
  | .dneg => match st with
    | .double a :: r => K (pc + n, ls, .double (FP.dneg a) :: r, h)
    | _ => bot
  | .dcmp k => match st with
    | .double b :: .double a :: r => K (pc + n, ls, .int (Op.cmpValue (FP.dcmp a b) k) :: r, h)
    | _ => bot
  | .fadd => match st with
    | .float b :: .float a :: r => zif bot (zn32 (FP.fadd a b)) (K (pc + n, ls, .float (FP.fadd a b) :: r, h))
    | _ => bot
  | .fsub => match st with
    | .float b :: .float a :: r => zif bot (zn32 (FP.fsub a b)) (K (pc + n, ls, .float (FP.fsub a b) :: r, h))
    | _ => bot
  | .fdiv => match st with
    | .float b :: .float a :: r => zif bot (zn32 (FP.fdiv a b)) (K (pc + n, ls, .float (FP.fdiv a b) :: r, h))
    | _ => bot
  | .fcmp k => match st with
    | .float b :: .float a :: r => K (pc + n, ls, .int (Op.cmpValue (FP.fcmp a b) k) :: r, h)
    | _ => bot
  | .i2l => match st with
    | .int a :: r => K (pc + n, ls, .long a.toInt64 :: r, h)
    | _ => bot
  | .i2d => match st with
    | .int a :: r => K (pc + n, ls, .double (FP.i2d a) :: r, h)
    | _ => bot
  | .i2f => match st with
    | .int a :: r => K (pc + n, ls, .float (FP.i2f a) :: r, h)
    | _ => bot
  | .i2b => match st with
    | .int a :: r => K (pc + n, ls, .int a.toInt8.toInt32 :: r, h)
    | _ => bot
  | .i2c => match st with
    | .int a :: r => K (pc + n, ls, .int (a.toUInt32 % 65536).toInt32 :: r, h)
    | _ => bot
  | .d2i => match st with
    | .double a :: r => K (pc + n, ls, .int (FP.d2i a) :: r, h)
    | _ => bot
  | .d2l => match st with
    | .double a :: r => K (pc + n, ls, .long (FP.d2l a) :: r, h)
    | _ => bot
  | .f2d => match st with
    | .float a :: r => zif bot (zn64 (FP.f2d a)) (K (pc + n, ls, .double (FP.f2d a) :: r, h))
    | _ => bot
  | .ifCond k off => match st with
    | .int a :: r => zbr (zcond k a 0) (K (ztg pc off, ls, r, h)) (K (pc + n, ls, r, h))
    | _ => bot
  | .if_icmp k off => match st with
    | .int b :: .int a :: r => zbr (zcond k a b) (K (ztg pc off, ls, r, h)) (K (pc + n, ls, r, h))
    | _ => bot
  | .if_acmp k off => match st with
    | .ref b :: .ref a :: r => zbr (match k with | .eq => decide (a = b) | .ne => !decide (a = b)) (K (ztg pc off, ls, r, h)) (K (pc + n, ls, r, h))
    | _ => bot
  | .ifnull off => match st with
    | .null :: r => K (ztg pc off, ls, r, h)
    | .ref _ :: r => K (pc + n, ls, r, h)
    | _ => bot
  | .ifnonnull off => match st with
    | .null :: r => K (pc + n, ls, r, h)
    | .ref _ :: r => K (ztg pc off, ls, r, h)
    | _ => bot
  | .goto off => K (ztg pc off, ls, st, h)
  | .tableswitch d lo hi offs => match st with
    | .int y :: r => zbr (decide (y.toInt < lo) || decide (hi < y.toInt)) (K (ztg pc d, ls, r, h)) (match offs[(y.toInt - lo).toNat]? with
      | some off => K (ztg pc off, ls, r, h)
      | none => bot)
    | _ => bot
  | .getfield _ => match st with
    | v :: r => zob bot h v x.1 fun _ vs => zix bot vs x.2.1 fun w => K (pc + n, ls, w :: r, h)
    | _ => bot
  | .putfield _ => match st with
    | w :: v :: r => zob bot h v x.1 fun a vs => zif bot (zfit x.2.2.1 w) (K (pc + n, ls, r, zset h a (x.1, vs.set x.2.1 w)))
    | _ => bot
  | .getstatic _ => zif bot (Nat.blt x.1 zsts.length) (K (pc + n, ls, E.1 x.1 :: st, h))
  | .new _ => match Nat.blt x.1 64 with
    | true => match zdf[x.1]? with
      | some d => K (pc + n, ls, .ref h.2.1 :: st, zalloc h (x.1, d) x.2.1)
      | none => bot
    | false => zif bot (Nat.ble 1000 x.1) (zif bot (Nat.ble (zwt st) 8) (R (.inr (x.1 - 1000)) (h.1, h.2.1 + 1, h.2.2 + 6)))
  | .newarray _ => match st with
    | .int y :: r => if y < 0 then bot else zif bot (Nat.ble y.toNatClampNeg 1000000) (zif bot (Nat.blt x.1 66) (K (pc + n, ls, .ref h.2.1 :: r, zalloc h (x.1, List.replicate y.toNatClampNeg (.int 0)) y.toNatClampNeg)))
    | _ => bot
  | .anewarray _ => match st with
    | .int y :: r => if y < 0 then bot else zif bot (Nat.ble y.toNatClampNeg 1000000) (K (pc + n, ls, .ref h.2.1 :: r, zalloc h (x.1, List.replicate y.toNatClampNeg .null) y.toNatClampNeg))
    | _ => bot
  | .multianewarray _ _ => match x.1 with
    | 2 => match st with
      | .int k :: .int m :: r => if k < 0 then bot else if m < 0 then bot else zif bot (Nat.ble k.toNatClampNeg 1000) (zif bot (Nat.ble m.toNatClampNeg 1000) (K (pc + n, ls, .ref h.2.1 :: r, zalloc2 h m.toNatClampNeg k.toNatClampNeg)))
      | _ => bot
    | 3 => match st with
      | .int q :: .int k :: .int m :: r => if q < 0 then bot else if k < 0 then bot else if m < 0 then bot else zif bot (Nat.ble q.toNatClampNeg 1000) (zif bot (Nat.ble k.toNatClampNeg 1000) (zif bot (Nat.ble m.toNatClampNeg 1000) (K (pc + n, ls, .ref h.2.1 :: r, zalloc3 h m.toNatClampNeg k.toNatClampNeg q.toNatClampNeg))))
      | _ => bot
    | _ => bot
  | .arraylength => match st with
    | v :: r => zan bot h v fun _ t vs => zif bot (Nat.ble 64 t) (K (pc + n, ls, .int (Int32.ofNat vs.length) :: r, h))
    | _ => bot
  | .iaload => match st with
    | .int y :: v :: r => zan bot h v fun _ t vs => zif bot (Nat.beq t 64 || Nat.beq t 96) (zel bot vs y fun _ w => K (pc + n, ls, w :: r, h))
    | _ => bot
  | .baload => match st with
    | .int y :: v :: r => zan bot h v fun _ t vs => zif bot (Nat.beq t 65) (zel bot vs y fun _ w => K (pc + n, ls, w :: r, h))
    | _ => bot
  | .aaload => match st with
    | .int y :: v :: r => zan bot h v fun _ t vs => zif bot (Nat.ble 66 t && Nat.ble t 69) (zel bot vs y fun _ w => K (pc + n, ls, w :: r, h))
    | _ => bot
  | .iastore => match st with
    | .int w :: .int y :: v :: r => zob bot h v 64 fun a vs => zel bot vs y fun k _ => K (pc + n, ls, r, zset h a (64, vs.set k (.int w)))
    | _ => bot
  | .bastore => match st with
    | .int w :: .int y :: v :: r => zob bot h v 65 fun a vs => zel bot vs y fun k _ => K (pc + n, ls, r, zset h a (65, vs.set k (.int w.toInt8.toInt32)))
    | _ => bot
  | .aastore => match st with
    | .ref b :: .int y :: v :: r => zan bot h v fun a t vs => zan bot h (.ref b) fun _ tb _ => zif bot (zasg t tb) (zel bot vs y fun k _ => K (pc + n, ls, r, zset h a (t, vs.set k (.ref b))))
    | .null :: .int y :: v :: r => zan bot h v fun a t vs => zif bot (Nat.beq t 68 || Nat.beq t 69) (zel bot vs y fun k _ => K (pc + n, ls, r, zset h a (t, vs.set k .null)))
    | _ => bot
  | .checkcast _ => match st with
    | .null :: r => K (pc + n, ls, .null :: r, h)
    | .ref a :: r => zob bot h (.ref a) x.1 fun _ _ => zif bot (Nat.blt x.1 64) (K (pc + n, ls, .ref a :: r, h))
    | _ => bot
  | .ireturn => match st with
    | [.int y] => match rt with
      | some .int => R (.inl (some (.int y))) h
      | some .boolean => if y = 0 then R (.inl (some (.int 0))) h else if y = 1 then R (.inl (some (.int 1))) h else bot
      | some .byte => zif bot (y.toInt8.toInt32 == y) (R (.inl (some (.int y))) h)
      | some .char => zif bot ((y.toUInt32 % 65536).toInt32 == y) (R (.inl (some (.int y))) h)
      | _ => bot
    | _ => bot
  | .lreturn => match st with
    | [.long y] => match rt with
      | some .long => R (.inl (some (.long y))) h
      | _ => bot
    | _ => bot
  | .dreturn => match st with
    | [.double y] => match rt with
      | some .double => R (.inl (some (.double y))) h
      | _ => bot
    | _ => bot
  | .freturn => match st with
    | [.float y] => match rt with
      | some .float => R (.inl (some (.float y))) h
      | _ => bot
    | _ => bot
  | .areturn => match st with
    | [.ref a] => match rt with
      | some (.object _) => R (.inl (some (.ref a))) h
      | some (.array _) => R (.inl (some (.ref a))) h
      | _ => bot
    | [.null] => match rt with
      | some (.object _) => R (.inl (some .null)) h
      | some (.array _) => R (.inl (some .null)) h
      | _ => bot
    | _ => bot
  | .return_ => match st with
    | [] => match rt with
      | none => R (.inl none) h
      | _ => bot
    | _ => bot
  | .invokestatic _ => match x.1 with
    | 21 => match st with
      | .int q :: .int dp :: w :: .int sp :: v :: r => zan bot h v fun _ tv f => zan bot h w fun b tw g => zif bot (Nat.beq tv tw && (Nat.beq tw 64 || Nat.beq tw 65)) (if q < 0 then bot else if dp < 0 then bot else if sp < 0 then bot else zif bot (Nat.ble (sp.toNatClampNeg + q.toNatClampNeg) f.length) (zif bot (Nat.ble (dp.toNatClampNeg + q.toNatClampNeg) g.length) (zif bot (((f.drop sp.toNatClampNeg).take q.toNatClampNeg).all (zfit (zcpf tw))) (zif bot (Nat.ble (zwt r) 8) (K (pc + n, ls, r, zset h b (tw, zcpy f g sp.toNatClampNeg dp.toNatClampNeg q.toNatClampNeg)))))))
      | _ => bot
    | 25 => match st with
      | .float b :: .float a :: r => zif bot (zn32 a) (zif bot (zn32 b) (zif bot (Nat.ble (zwt r) 8) (K (pc + n, ls, .float (Native.java_lang_Math.nans.pick32 false a b) :: r, h))))
      | _ => bot
    | 26 => match st with
      | .double a :: r => zif bot (zn64 a) (zif bot (Nat.ble (zwt r) 8) (K (pc + n, ls, .double (a &&& 0x7fffffffffffffff) :: r, h)))
      | _ => bot
    | k => zif bot (Nat.beq k 3 || (Nat.beq k 4 || Nat.beq k 9)) (match zsp x.2.2.1 [] st with
      | some (as, r) => zif bot (Nat.ble (zwt r) 8) (C x.2.1 as r)
      | none => bot)
  | .invokespecial _ => match x.1 with
    | 20 => match st with
      | .ref _ :: r => zif bot (Nat.ble (zwt r) 8) (K (pc + n, ls, r, h))
      | _ => bot
    | 7 => match zsp x.2.2.1 [] st with
      | some (as, v :: r) => zob bot h v x.2.2.2.1 fun b _ => zif bot (Nat.ble (zwt r) 8) (C x.2.1 (.ref b :: as) r)
      | _ => bot
    | k => zif bot (Nat.beq k 5 || Nat.beq k 6) (match zsp x.2.2.1 [] st with
      | some (as, .ref b :: r) => zif bot (Nat.ble (zwt r) 8) (C x.2.1 (.ref b :: as) r)
      | _ => bot)
  | .invokevirtual _ => zif bot (Nat.beq x.1 0 || Nat.beq x.1 2) (match zsp x.2.2.1 [] st with
    | some (as, v :: r) => zob bot h v x.2.2.2.1 fun b _ => zif bot (Nat.ble (zwt r) 8) (C x.2.1 (.ref b :: as) r)
    | _ => bot)
  | .invokeinterface _ _ => zif bot (Nat.beq x.1 8) (match zsp x.2.2.1 [] st with
    | some (as, v :: r) => zob bot h v x.2.2.2.1 fun b _ => zif bot (Nat.ble (zwt r) 8) (C x.2.1 (.ref b :: as) r)
    | _ => bot)
  | _ => bot
/-- the locals at a method's start -/
def zargs : List Value → zLc
  | [] => []
  | v :: r => match zcat v with
    | 1 => some v :: zargs r
    | _ => some v :: none :: zargs r
def zfill : Nat → zLc → zLc
  | 0, ls => ls
  | n + 1, [] => none :: zfill n []
  | n + 1, x :: r => x :: zfill n r
def zml (j : Nat) : Nat := match zmd j with
  | some r => r.2.2.1
  | none => 0
def zent (j : Nat) (as : List Value) : zLc := zfill (zml j) (zargs as)
/-- the handler: its first instruction, which lays the exception into a local, is done -/
def zhl (j pc e o : Nat) : List (Nat × Nat × Nat × Nat) → Option (Nat × Nat)
  | [] => none
  | (a, b, hp, k) :: r => match Nat.ble a pc && Nat.blt pc b with
    | false => zhl j pc e o r
    | true => match zlk zHt (o * 100000 + k) with
      | some e' => match Nat.beq e e' with
        | true => match zins j hp with
          | some (.astore q, n, _) => some (hp + n, q)
          | some (.astore_n q, n, _) => some (hp + n, q.val)
          | _ => none
        | false => zhl j pc e o r
      | none => none
/-- what comes behind a call that has thrown -/
def zthr {α : Type} (bot : α) (j pc e : Nat) (ls : zLc) (h : zPH) (K : zCfg → α) (R : zOut → zPH → α) : α := match zmd j with
  | some r => match r.2.2.2.2.2.2 with
    | [] => R (.inr e) h
    | hh => match zhl j pc e r.2.2.2.2.1 hh with
      | some (hp, k) => zif bot (Nat.blt k ls.length) (K (hp, zput ls k none, [], h))
      | none => bot
  | none => bot
/-- THE RUN: fuel, calls that may stand open, the method, where it is -/
def zrun (E : zEnv) : Nat → Nat → Nat → zCfg → Option (zOut × zPH)
  | 0, _, _, _ => none
  | n + 1, d, j, (pc, ls, st, h) => match zins j pc with
    | none => none
    | some (i, len, x) => zact none E (zrt j) i len x pc ls st h (fun y => zrun E n d j y) (fun o h' => some (o, h')) (fun j' as r => match d with
      | 0 => none
      | d' + 1 => match Nat.ble (zargs as).length (zml j') with
        | false => none
        | true => match zrun E n d' j' (0, zent j' as, [], h) with
          | none => none
          | some (.inl v, h') => zrun E n (d' + 1) j (pc + len, ls, v.toList ++ r, h')
          | some (.inr e, h') => zthr none j pc e ls h' (fun y => zrun E n (d' + 1) j y) (fun o h' => some (o, h')))
/-- what a run comes to -/
def zwp (E : zEnv) (d j : Nat) (y : zCfg) (Q : zOut → zPH → Prop) : Prop := ∃ n r, zrun E n d j y = some r ∧ Q r.1 r.2
def zcall (E : zEnv) (d j : Nat) (as : List Value) (h : zPH) (Q : zOut → zPH → Prop) : Prop := zwp E d j (0, zent j as, [], h) Q
/-- behind a call: in the caller -/
def zback (E : zEnv) (d j pc len : Nat) (ls : zLc) (r : List Value) (Q : zOut → zPH → Prop) : zOut → zPH → Prop
  | .inl v, h => zwp E d j (pc + len, ls, v.toList ++ r, h) Q
  | .inr e, h => zthr False j pc e ls h (fun y => zwp E d j y Q) Q
/-! ### a step is one of four -/
abbrev zFr : Type := Unit ⊕ zCfg ⊕ (zOut × zPH) ⊕ (Nat × List Value × List Value)
def zsel {α : Type} (bot : α) (K : zCfg → α) (R : zOut → zPH → α) (C : Nat → List Value → List Value → α) : zFr → α
  | .inl _ => bot
  | .inr (.inl y) => K y
  | .inr (.inr (.inl q)) => R q.1 q.2
  | .inr (.inr (.inr c)) => C c.1 c.2.1 c.2.2
def zfree (E : zEnv) (rt : Option FieldType) (i : Instr) (n : Nat) (x : zAux) (pc : Nat) (ls : zLc) (st : List Value) (h : zPH) : zFr :=
  zact (.inl ()) E rt i n x pc ls st h (fun y => .inr (.inl y)) (fun o h => .inr (.inr (.inl (o, h)))) (fun j a r => .inr (.inr (.inr (j, a, r))))
set_option maxHeartbeats 4000000 in
theorem zact_free {α : Type} (bot : α) (E : zEnv) (rt : Option FieldType) (i : Instr) (n : Nat) (x : zAux) (pc : Nat) (ls : zLc) (st : List Value) (h : zPH) (K : zCfg → α) (R : zOut → zPH → α) (C : Nat → List Value → List Value → α) :
    zact bot E rt i n x pc ls st h K R C = zsel bot K R C (zfree E rt i n x pc ls st h) := by
  cases i <;> simp only [zfree, zact, zget, zob, zan, zix, zel, zif, zbr]
  all_goals (first | rfl | skip)
  all_goals ((repeat' split) <;> first | rfl | (simp_all [zsel]; done))

/-! ===== every resolved instruction is what stands in the bytes, and its entry is in the lists of what is known ===== -/
/-- an instruction's length; 0: it isn't one of ours, or its length hangs on where it stands -/
def zil : Instr → Nat
  | .iconst _ => 1 | .bipush _ => 2 | .sipush _ => 3 | .lconst _ => 1 | .fconst _ => 1 | .dconst _ => 1 | .aconst_null => 1
  | .ldc _ => 2 | .ldc_w _ => 3 | .ldc2_w _ => 3
  | .iload _ => 2 | .lload _ => 2 | .dload _ => 2 | .fload _ => 2 | .aload _ => 2
  | .iload_n _ => 1 | .lload_n _ => 1 | .dload_n _ => 1 | .fload_n _ => 1 | .aload_n _ => 1
  | .istore _ => 2 | .lstore _ => 2 | .dstore _ => 2 | .fstore _ => 2 | .astore _ => 2
  | .istore_n _ => 1 | .lstore_n _ => 1 | .dstore_n _ => 1 | .fstore_n _ => 1 | .astore_n _ => 1
  | .iinc _ _ => 3 | .pop => 1 | .pop2 => 1 | .dup => 1 | .dup_x1 => 1 | .dup2 => 1
  | .iadd => 1 | .isub => 1 | .imul => 1 | .idiv => 1 | .irem => 1 | .ineg => 1 | .iand => 1 | .ior => 1 | .ixor => 1 | .ishl => 1 | .ishr => 1 | .iushr => 1
  | .ladd => 1 | .lmul => 1 | .lcmp => 1
  | .dadd => 1 | .dsub => 1 | .dmul => 1 | .ddiv => 1 | .dneg => 1 | .dcmp _ => 1
  | .fadd => 1 | .fsub => 1 | .fdiv => 1 | .fcmp _ => 1
  | .i2l => 1 | .i2d => 1 | .i2f => 1 | .i2b => 1 | .i2c => 1 | .d2i => 1 | .d2l => 1 | .f2d => 1
  | .ifCond _ _ => 3 | .if_icmp _ _ => 3 | .if_acmp _ _ => 3 | .ifnull _ => 3 | .ifnonnull _ => 3 | .goto _ => 3
  | .getfield _ => 3 | .putfield _ => 3 | .getstatic _ => 3 | .new _ => 3 | .newarray _ => 2 | .anewarray _ => 3 | .multianewarray _ _ => 4
  | .arraylength => 1 | .iaload => 1 | .baload => 1 | .aaload => 1 | .iastore => 1 | .bastore => 1 | .aastore => 1 | .checkcast _ => 3
  | .ireturn => 1 | .lreturn => 1 | .dreturn => 1 | .freturn => 1 | .areturn => 1 | .return_ => 1 | .athrow => 1
  | .invokestatic _ => 3 | .invokespecial _ => 3 | .invokevirtual _ => 3 | .invokeinterface _ _ => 5
  | _ => 0
def zq2 (a b : Nat) (e : Nat × Nat) : Bool := Nat.beq e.1 a && Nat.beq e.2 b
def zq3 (a b c : Nat) (e : (Nat × Nat) × Nat) : Bool := Nat.beq e.1.1 a && (Nat.beq e.1.2 b && Nat.beq e.2 c)
def zqK (a b c : Nat) (v : Value) (e : (Nat × Nat × Nat) × Value) : Bool := Nat.beq e.1.1 a && (Nat.beq e.1.2.1 b && (Nat.beq e.1.2.2 c && decide (e.2 = v)))
def zqF (a b : Nat) (x : zAux) (e : zFe) : Bool := Nat.beq e.1.1 a && (Nat.beq e.1.2 b && (Nat.beq e.2.1 x.1 && (Nat.beq e.2.2.1 x.2.1 && (Nat.beq e.2.2.2.1 x.2.2.1 && Nat.beq e.2.2.2.2 x.2.2.2.1))))
def zqV (a b : Nat) (x : zAux) (e : zVe) : Bool := Nat.beq e.1.1 a && (Nat.beq e.1.2.1 b && (Nat.beq e.1.2.2 x.1 && (Nat.beq e.2.1 x.2.1 && (Nat.beq e.2.2.1 x.2.2.1 && Nat.beq e.2.2.2 x.2.2.2.1))))
def zqT (a b : Nat) (x : zAux) (e : (Nat × Nat × Nat × Nat) × Nat × Nat) : Bool := Nat.beq e.1.1 a && (Nat.beq e.1.2.1 b && (Nat.beq e.1.2.2.1 x.2.1 && (Nat.beq e.1.2.2.2 x.2.2.1 && Nat.beq (1000 + e.2.1) x.1)))
def zoff (pc : Nat) (off : Int) : Bool := decide (0 ≤ (pc : Int) + off)
def zisd (cc : ByteArray) (pc : Nat) (i : Instr) (n : Nat) : Bool := decide (decode cc pc = .ok (i, n))
def zthk (cc : ByteArray) (pc s t : Nat) : Nat → Bool
  | 0 => zisd cc (pc + 3) .dup 1 && (zisd cc (pc + 4) (.ldc s) 2 && (zisd cc (pc + 6) (.invokespecial t) 3 && zisd cc (pc + 9) .athrow 1))
  | _ => zisd cc (pc + 3) .dup 1 && (zisd cc (pc + 4) (.ldc_w s) 3 && (zisd cc (pc + 7) (.invokespecial t) 3 && zisd cc (pc + 10) .athrow 1))
def zck (r : zMd) (pc : Nat) (i : Instr) (x : zAux) : Bool := match i with
  | .ldc k => match x.1 with
    | 0 => zKl.any (zqK r.2.2.2.2.1 k 0 x.2.2.2.2)
    | 1 => zLl.any (zq3 r.2.2.2.2.1 k x.2.1)
    | _ => true
  | .ldc_w k => zKl.any (zqK r.2.2.2.2.1 k 1 x.2.2.2.2)
  | .ldc2_w k => zKl.any (zqK r.2.2.2.2.1 k 2 x.2.2.2.2)
  | .ifCond _ off => zoff pc off
  | .if_icmp _ off => zoff pc off
  | .if_acmp _ off => zoff pc off
  | .ifnull off => zoff pc off
  | .ifnonnull off => zoff pc off
  | .goto off => zoff pc off
  | .tableswitch d _ _ offs => zoff pc d && offs.toList.all (zoff pc)
  | .getfield k => zFl.any (zqF r.2.2.2.2.1 k x)
  | .putfield k => zFl.any (zqF r.2.2.2.2.1 k x) && (match x.2.2.2.1 with
    | 0 => true
    | 1 => decide (r.1.name = "<init>") && (match zcl[x.1]? with
      | some c => decide ((c.2.1 x.2.1).1 = r.1.cls)
      | none => false)
    | _ => false)
  | .getstatic k => zSl.any (zq3 r.2.2.2.2.1 k x.1)
  | .new k => match Nat.blt x.1 64 with
    | true => zNl.any (zq3 r.2.2.2.2.1 k x.1) && (match zns[x.1]? with
      | some n => Nat.beq n x.2.1
      | none => false)
    | false => zTl.any (zqT r.2.2.2.2.1 k x) && (zthk r.2.1 pc x.2.1 x.2.2.1 x.2.2.2.1 && r.2.2.2.2.2.2.isEmpty)
  | .newarray a => match x.1 with
    | 64 => decide (a = .int)
    | 65 => decide (a = .byte)
    | _ => false
  | .anewarray k => Nat.ble 64 x.1 && zAl.any (zq3 r.2.2.2.2.1 k (x.1 - 64))
  | .multianewarray k d => match x.1 with
    | 2 => Nat.beq d 2 && zGl.any (zq3 r.2.2.2.2.1 k 2)
    | 3 => Nat.beq d 3 && zGl.any (zq3 r.2.2.2.2.1 k 3)
    | _ => true
  | .checkcast k => zNl.any (zq3 r.2.2.2.2.1 k x.1)
  | .invokestatic k => match x.1 with
    | 21 => zWl.any (zq3 r.2.2.2.2.1 k 21)
    | 25 => zWl.any (zq3 r.2.2.2.2.1 k 25)
    | 26 => zWl.any (zq3 r.2.2.2.2.1 k 26)
    | _ => zVl.any (fun l => l.any (zqV r.2.2.2.2.1 k x))
  | .invokespecial k => match x.1 with
    | 20 => zWl.any (zq3 r.2.2.2.2.1 k 20)
    | _ => zVl.any (fun l => l.any (zqV r.2.2.2.2.1 k x))
  | .invokevirtual k => zVl.any (fun l => l.any (zqV r.2.2.2.2.1 k x))
  | .invokeinterface k _ => zVl.any (fun l => l.any (zqV r.2.2.2.2.1 k x))
  | _ => true
def zln (i : Instr) (n : Nat) : Bool := match i with
  | .tableswitch _ _ _ _ => true
  | _ => Nat.beq (zil i) n
def zcke (r : zMd) (e : zIn) : Bool := zisd r.2.1 e.1 e.2.1 e.2.2.1 && (zln e.2.1 e.2.2.1 && zck r e.1 e.2.1 e.2.2.2)
def zckm (r : zMd) (c : List (List zIn)) : Bool := c.all fun b => b.all (zcke r)
def zckl : List zMd → List (List (List zIn)) → Bool
  | [], _ => true
  | _ :: _, [] => true
  | r :: R, c :: C => zckm r c && zckl R C
set_option maxRecDepth 100000 in
set_option maxHeartbeats 4000000 in
theorem zck_0 : zckl zmd_0 zcs_0 = true := by decide +kernel
set_option maxRecDepth 100000 in
set_option maxHeartbeats 4000000 in
theorem zck_1 : zckl zmd_1 zcs_1 = true := by decide +kernel

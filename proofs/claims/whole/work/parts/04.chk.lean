def zby (m : Nat) : ByteArray := match zmt[m]? with
  | some e => e.2.1
  | none => code
def zow (m : Nat) : Nat := match zmt[m]? with
  | some e => e.2.2.2.2.2.2
  | none => 8
def zini (m : Nat) : Bool := match zmt[m]? with
  | some e => e.2.2.2.2.2.1 == 2
  | none => false
def zkd (k : Nat) : Nat := (zmi k).2.1
/-- what an instruction of the bytes is in the small machine, and how long it must be -/
def zcv (own : Nat) (ini : Bool) (pc : Nat) (raw : Instr) : Option (Instr × Nat) := match raw with
  | .iload_n k => some (.iload k, 1)
  | .iload k => some (.iload k, 2)
  | .aload_n k => some (.aload k, 1)
  | .aload k => some (.aload k, 2)
  | .istore_n k => some (.istore k, 1)
  | .istore k => some (.istore k, 2)
  | .astore_n k => some (.astore k, 1)
  | .astore k => some (.astore k, 2)
  | .iinc k c => if zI c then some (.iinc k c, 3) else none
  | .iconst c => some (.iconst c, 1)
  | .bipush c => if -128 ≤ c ∧ c ≤ 127 then some (.iconst c, 2) else none
  | .sipush c => if -32768 ≤ c ∧ c ≤ 32767 then some (.iconst c, 3) else none
  | .goto o => if 0 ≤ (pc : Int) + o then some (.goto (pc + o), 3) else none
  | .ifCond c o => if 0 ≤ (pc : Int) + o then some (.ifCond c (pc + o), 3) else none
  | .if_icmp c o => if 0 ≤ (pc : Int) + o then some (.if_icmp c (pc + o), 3) else none
  | .tableswitch d lo hi offs => if 0 ≤ (pc : Int) + d ∧ (∀ o ∈ offs.toList, 0 ≤ (pc : Int) + o) ∧ (offs.size : Int) = hi - lo + 1 then some (.tableswitch (pc + d) lo hi (offs.map (fun o => pc + o)), 0) else none
  | .getfield x => match zfl.lookup (own, x) with
    | some (ci, k) => if ci < 8 ∧ k < zcN ci ∧ k < 64 then (if zcy ci k = .int then some (.invokeinterface ci k, 3) else some (.getstatic (64 * ci + k), 3)) else none
    | none => none
  | .putfield x => match zfl.lookup (own, x) with
    | some (ci, k) => if ci < 8 ∧ k < zcN ci ∧ k < 64 ∧ ((zct ci k).2.2.2 = false ∨ (ini = true ∧ ci = own)) then (if zcy ci k = .int then some (.multianewarray ci k, 3) else some (.putstatic (64 * ci + k), 3)) else none
    | none => none
  | .invokevirtual x => match zlk.lookup (own, x) with
    | some k => if zkd k = 1 then some (.invokedynamic k, 3) else none
    | none => none
  | .invokestatic x => match zlk.lookup (own, x) with
    | some k => if zkd k = 0 then some (.invokedynamic k, 3) else none
    | none => (match zlkN.lookup (own, x) with
      | some k => if zkd k = 0 then some (.invokedynamic k, 3) else none
      | none => (match zna.lookup (own, x) with
        | some 0 => some (.lmul, 3)
        | some 1 => some (.ldiv, 3)
        | some 2 => some (.lshl, 3)
        | _ => none))
  | .invokespecial x => match zlk.lookup (own, x) with
    | some k => if zkd k = 2 then some (.invokedynamic k, 3) else none
    | none => (match zlkN.lookup (own, x) with
      | some k => if zkd k = 2 then some (.invokedynamic k, 3) else none
      | none => if (own, x) ∈ zoi then some (.lneg, 3) else none)
  | .new x => match zcl.lookup (own, x) with
    | some ci => some (.new ci, 3)
    | none => none
  | .anewarray x => match zcl.lookup (own, x) with
    | some 5 => some (.anewarray 5, 3)
    | _ => none
  | .newarray .int => some (.newarray .int, 2)
  | .newarray .boolean => some (.newarray .boolean, 2)
  | .dup => some (.dup, 1)
  | .dup2 => some (.dup2, 1)
  | .pop => some (.pop, 1)
  | .iadd => some (.iadd, 1)
  | .isub => some (.isub, 1)
  | .imul => some (.imul, 1)
  | .idiv => some (.idiv, 1)
  | .irem => some (.irem, 1)
  | .ineg => some (.ineg, 1)
  | .iand => some (.iand, 1)
  | .ior => some (.ior, 1)
  | .ixor => some (.ixor, 1)
  | .ishl => some (.ishl, 1)
  | .ishr => some (.ishr, 1)
  | .iaload => some (.iaload, 1)
  | .iastore => some (.iastore, 1)
  | .baload => some (.baload, 1)
  | .bastore => some (.bastore, 1)
  | .aaload => some (.aaload, 1)
  | .aastore => some (.aastore, 1)
  | .arraylength => some (.arraylength, 1)
  | .ireturn => some (.ireturn, 1)
  | .areturn => some (.areturn, 1)
  | .return_ => some (.return_, 1)
  | _ => none
def zck (own : Nat) (ini : Bool) (bytes : ByteArray) : Nat → List Instr → Bool
  | _, [] => true
  | pc, i :: is => (match i with
    | .goto_w L => decide (L = (pc : Int))
    | _ => false) || (match decode bytes pc with
    | .ok (raw, len) => (match zcv own ini pc raw with
      | some (j, n) => decide (j = i) && (decide (n = len) || decide (n = 0)) && zck own ini bytes (pc + len) is
      | none => false)
    | _ => false)
def zckm (m : Nat) : Bool := (zbl m).all (fun q => decide (0 ≤ q.1) && zck (zow m) (zini m) (zby m) q.1.toNat q.2)

set_option maxRecDepth 100000 in
theorem zck_r0 : (List.range 25).all (fun k => zckm (0 + k)) = true := by decide +kernel
set_option maxRecDepth 100000 in
theorem zck_r1 : (List.range 25).all (fun k => zckm (25 + k)) = true := by decide +kernel
set_option maxRecDepth 100000 in
theorem zck_r2 : (List.range 25).all (fun k => zckm (50 + k)) = true := by decide +kernel
set_option maxRecDepth 100000 in
theorem zck_r3 : (List.range 25).all (fun k => zckm (75 + k)) = true := by decide +kernel
set_option maxRecDepth 100000 in
theorem zck_r4 : (List.range 25).all (fun k => zckm (100 + k)) = true := by decide +kernel
set_option maxRecDepth 100000 in
theorem zck_r5 : (List.range 25).all (fun k => zckm (125 + k)) = true := by decide +kernel
set_option maxRecDepth 100000 in
theorem zck_r6 : (List.range 25).all (fun k => zckm (150 + k)) = true := by decide +kernel
set_option maxRecDepth 100000 in
theorem zck_r7 : (List.range 25).all (fun k => zckm (175 + k)) = true := by decide +kernel
set_option maxRecDepth 100000 in
theorem zck_r8 : (List.range 25).all (fun k => zckm (200 + k)) = true := by decide +kernel
set_option maxRecDepth 100000 in
theorem zck_r9 : (List.range 25).all (fun k => zckm (225 + k)) = true := by decide +kernel

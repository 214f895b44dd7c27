def zone : Instr → Bool
  | .iadd => true
  | .isub => true
  | .imul => true
  | .iand => true
  | .ior => true
  | .ixor => true
  | .ishl => true
  | .ishr => true
  | .iushr => true
  | .idiv => true
  | .irem => true
  | .ladd => true
  | .lmul => true
  | .ldiv => true
  | .lrem => true
  | .lcmp => true
  | .i2l => true
  | .l2i => true
  | .i2c => true
  | .i2b => true
  | .dup => true
  | .dup2 => true
  | .pop => true
  | .arraylength => true
  | .iaload => true
  | .caload => true
  | .baload => true
  | .iastore => true
  | .castore => true
  | .ireturn => true
  | .lreturn => true
  | .return_ => true
  | .astore_n _ => true
  | _ => false
def zlenOk (cn : Nat) (pc : Nat) (en : zE) : Bool :=
  match en with
  | (.iconst n, nx, .int c, _) => Nat.beq nx (pc + 1) && decide (Int32.ofInt n = c)
  | (.bipush n, nx, .int c, _) => Nat.beq nx (pc + 2) && decide ((Int8.ofInt n).toInt32 = c)
  | (.sipush n, nx, .int c, _) => Nat.beq nx (pc + 3) && decide ((Int16.ofInt n).toInt32 = c)
  | (.lconst n, nx, .long c, _) => Nat.beq nx (pc + 1) && decide (Int64.ofNat (n : Nat) = c)
  | (.ldc i, nx, v, _) => Nat.beq nx (pc + 2) && (decide ((i, 4, v, []) ∈ zcp cn) || decide ((i, 6, v, []) ∈ zcp cn))
  | (.ldc_w i, nx, v, _) => Nat.beq nx (pc + 3) && decide ((i, 4, v, []) ∈ zcp cn)
  | (.ldc2_w i, nx, v, _) => Nat.beq nx (pc + 3) && decide ((i, 5, v, []) ∈ zcp cn)
  | (.getstatic i, nx, v, ax) => Nat.beq nx (pc + 3) && (decide ((i, 2, v, ax) ∈ zcp cn) || decide ((i, 3, v, ax) ∈ zcp cn))
  | (.iload i, nx, _, [a]) => Nat.beq nx (pc + 2) && Nat.beq i a
  | (.lload i, nx, _, [a]) => Nat.beq nx (pc + 2) && Nat.beq i a
  | (.aload i, nx, _, [a]) => Nat.beq nx (pc + 2) && Nat.beq i a
  | (.iload_n i, nx, _, [a]) => Nat.beq nx (pc + 1) && Nat.beq i.val a
  | (.lload_n i, nx, _, [a]) => Nat.beq nx (pc + 1) && Nat.beq i.val a
  | (.aload_n i, nx, _, [a]) => Nat.beq nx (pc + 1) && Nat.beq i.val a
  | (.istore i, nx, _, [a]) => Nat.beq nx (pc + 2) && Nat.beq i a
  | (.lstore i, nx, _, [a]) => Nat.beq nx (pc + 2) && Nat.beq i a
  | (.istore_n i, nx, _, [a]) => Nat.beq nx (pc + 1) && Nat.beq i.val a
  | (.lstore_n i, nx, _, [a]) => Nat.beq nx (pc + 1) && Nat.beq i.val a
  | (.iinc i n, nx, .int c, [a]) => Nat.beq nx (pc + 3) && Nat.beq i a && decide (Int32.ofInt n = c)
  | (.getfield i, nx, v, ax) => Nat.beq nx (pc + 3) && (decide ((i, 0, v, ax) ∈ zcp cn) || decide ((i, 1, v, ax) ∈ zcp cn) || decide ((i, 10, v, ax) ∈ zcp cn))
  | (.putfield i, nx, v, ax) => Nat.beq nx (pc + 3) && (decide ((i, 0, v, ax) ∈ zcp cn) || decide ((i, 1, v, ax) ∈ zcp cn)) && (match ax with
    | [ci, k] => (match vwCl[ci]? with
      | some (_, T, _) => decide ((T k).2.2.2 = false) && decide (parseFieldDescriptor (T k).2.2.1 = some .int)
      | none => false)
    | _ => false)
  | (.goto off, nx, _, [t]) => Nat.beq nx (pc + 3) && decide ((pc : Int) + off = (t : Int))
  | (.ifCond _ off, nx, _, [t]) => Nat.beq nx (pc + 3) && decide ((pc : Int) + off = (t : Int))
  | (.if_icmp _ off, nx, _, [t]) => Nat.beq nx (pc + 3) && decide ((pc : Int) + off = (t : Int))
  | (.tableswitch d lo hi offs, _, _, [t]) => Nat.beq t pc && decide (0 ≤ (pc : Int) + d) && offs.toList.all (fun o => decide (0 ≤ (pc : Int) + o)) && decide ((offs.size : Int) = hi - lo + 1)
  | (.lookupswitch d ps, _, _, [t]) => Nat.beq t pc && decide (0 ≤ (pc : Int) + d) && ps.toList.all (fun o => decide (0 ≤ (pc : Int) + o.2)) && (ps.toList.zip (ps.toList.drop 1)).all (fun (a, next) => a.1 < next.1)
  | (.invokevirtual i, nx, v, ax) => Nat.beq nx (pc + 3) && decide ((i, 7, v, ax) ∈ zcp cn)
  | (.invokestatic i, nx, v, ax) => Nat.beq nx (pc + 3) && (decide ((i, 8, v, ax) ∈ zcp cn) || decide ((i, 9, v, ax) ∈ zcp cn))
  | (ins, nx, _, _) => zone ins && Nat.beq nx (pc + 1)
def zrooms (fr lo : Nat) (en : zE) : Bool :=
  match en.1, en.2.2.2 with
  | .invokevirtual _, [mi, _, _, _, _] => (match zmeth[mi]? with
    | some q => Nat.ble (q.2.2.2.2.2.2.1 + 1) fr && Nat.ble (8 + (q.2.2.2.1 + 11) + q.2.2.2.2.2.2.2) lo
    | none => false)
  | .invokestatic _, [mi, _, _, _, _] => (match zmeth[mi]? with
    | some q => Nat.ble (q.2.2.2.2.2.2.1 + 1) fr && Nat.ble (8 + (q.2.2.2.1 + 11) + q.2.2.2.2.2.2.2) lo
    | none => false)
  | _, _ => true
def zstOk (mx : Nat) (en : zE) : Bool :=
  match en.1, en.2.2.2 with
  | .istore _, [i] => decide (i < mx)
  | .istore_n _, [i] => decide (i < mx)
  | .iinc _ _, [i] => decide (i < mx)
  | .lstore _, [i] => decide (i + 1 < mx)
  | .lstore_n _, [i] => decide (i + 1 < mx)
  | _, _ => true
def zrtOk (rt : Option FieldType) (en : zE) : Bool :=
  match en.1 with
  | .lreturn => decide (rt = some .long)
  | .return_ => decide (rt = none)
  | _ => true
def zokE (q : zMe) (pe : Nat × zE) : Bool :=
  decide (decode q.2.2.1 pe.1 = .ok (pe.2.1, pe.2.2.1 - pe.1)) && zlenOk q.1 pe.1 pe.2 && zrooms q.2.2.2.2.2.2.1 q.2.2.2.2.2.2.2 pe.2 && zstOk q.2.2.2.1 pe.2 && zrtOk q.2.2.2.2.1 pe.2

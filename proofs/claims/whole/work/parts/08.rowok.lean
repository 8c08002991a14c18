/-! ===== rows of code, held against bytes and tables ===== -/
/-- where, length, instruction, numbers (target, class, method ..), word's place, constant, switch -/
abbrev Row : Type := Nat × Nat × Instr × Nat × Nat × Nat × Nat × Int32 × List (Int32 × Nat)
def rmB (N M : MD) : Bool := Nat.ble ((mdR N).frames + 1) (mdR M).frames && (Nat.ble (8 + (mdL N + 11) + (mdR N).locals) (mdR M).locals && (Nat.beq (mdR N).cells 0 && Nat.beq (mdR N).slots 0))
/-- rooms for what the machine does by itself -/
def rmX (M : MD) : Bool := Nat.ble 1 (mdR M).frames && Nat.ble 26 (mdR M).locals
def rmY (M : MD) : Bool := Nat.ble 1 (mdR M).frames && Nat.ble 21 (mdR M).locals
def tsOK (pc : Nat) : Nat → List Int → List (Int32 × Nat) → Bool
  | _, [], [] => true
  | i, off :: offs, q :: tb => decide (q.1 = nI i) && (decide ((pc : Int) + off = (q.2 : Int)) && tsOK pc (i + 1) offs tb)
  | _, _, _ => false
def lsOK (pc : Nat) : List (Int × Int) → List (Int32 × Nat) → Bool
  | [], [] => true
  | p :: ps, q :: tb => decide (q.1.toInt = p.1) && (decide ((pc : Int) + p.2 = (q.2 : Int)) && lsOK pc ps tb)
  | _, _ => false
/-- a row says what the bytes and the tables say -/
def rowOK (m : Nat) (r : Row) : Bool := match r with
  | (pc, len, ins, a, b, t, pl, v, tb) => (match decode (mdB (mt m)) pc with
    | .ok (i, n) => decide (i = ins) && Nat.beq n len
    | _ => false) && (match ins with
    | .iconst n => decide (Int32.ofInt n = v) && Nat.beq len 1
    | .bipush n => decide ((Int8.ofInt n).toInt32 = v) && Nat.beq len 2
    | .sipush n => decide ((Int16.ofInt n).toInt32 = v) && Nat.beq len 3
    | .lconst n => Nat.beq n.val a && Nat.beq len 1
    | .ldc i => Nat.beq len 2 && (match t with
      | 0 => decide ((clt[pl]?).map (fun q => (q.1, q.2.1, q.2.2.1)) = some (mcn m, i, v))
      | _ => decide (cnm (mcn m) = "SettledDots$Reader") && ((Nat.beq i 50 && Nat.beq b 0) || ((Nat.beq i 75 && Nat.beq b 1) || (Nat.beq i 80 && Nat.beq b 2))))
    | .ldc_w i => Nat.beq len 3 && decide ((clt[pl]?).map (fun q => (q.1, q.2.1, q.2.2.1)) = some (mcn m, i, v))
    | .ldc2_w i => Nat.beq len 3 && decide ((dlt[pl]?).map (fun q => (q.1, q.2.1, q.2.2.1)) = some (mcn m, i, a))
    | .istore i => Nat.blt i (mdL (mt m)) && Nat.beq len 2
    | .istore_n i => Nat.blt i.val (mdL (mt m)) && Nat.beq len 1
    | .astore i => Nat.blt i (mdL (mt m)) && Nat.beq len 2
    | .astore_n i => Nat.blt i.val (mdL (mt m)) && Nat.beq len 1
    | .lstore i => Nat.blt (i + 1) (mdL (mt m)) && Nat.beq len 2
    | .lstore_n i => Nat.blt (i.val + 1) (mdL (mt m)) && Nat.beq len 1
    | .iload _ => Nat.beq len 2
    | .lload _ => Nat.beq len 2
    | .aload _ => Nat.beq len 2
    | .iinc i n => Nat.blt i (mdL (mt m)) && (decide (Int32.ofInt n = v) && Nat.beq len 3)
    | .goto off => decide ((pc : Int) + off = (a : Int)) && Nat.beq len 3
    | .ifCond _ off => decide ((pc : Int) + off = (a : Int)) && Nat.beq len 3
    | .if_icmp _ off => decide ((pc : Int) + off = (a : Int)) && Nat.beq len 3
    | .tableswitch d lo hi offs => decide (lo = 0) && (decide (hi + 1 = (tb.length : Int)) && (decide (tb.length < 1000) && (decide ((pc : Int) + d = (a : Int)) && tsOK pc 0 offs.toList tb)))
    | .lookupswitch d ps => (ps.toList.zip (ps.toList.drop 1)).all (fun (a, next) => a.1 < next.1) && (decide ((pc : Int) + d = (a : Int)) && lsOK pc ps.toList tb)
    | .getfield i => Nat.beq len 3 && decide ((flt[pl]?).map (fun q => (q.1, q.2.1, q.2.2.1, q.2.2.2.1, q.2.2.2.2.1)) = some (mcn m, i, a, b, t))
    | .putfield i => Nat.beq len 3 && decide ((flt[pl]?).map (fun q => (q.1, q.2.1, q.2.2.1, q.2.2.2.1, q.2.2.2.2.1, q.2.2.2.2.2.2)) = some (mcn m, i, a, b, t, 0))
    | .invokevirtual i => Nat.beq len 3 && (decide ((mlt[pl]?).map (fun q => (q.1, q.2.1, q.2.2.1, q.2.2.2.1)) = some (mcn m, i, a, 0)) && (Nat.blt a 292 && (Nat.beq (mtK a).1 0 && (Nat.beq (mtK a).2.1 b && ((match Nat.blt t 50 with
      | true => decide ((vwCl[t]?).map (fun q => q.1) = some (cnm (mcn a)))
      | false => decide (cnm (mcn a) = "java/lang/String")) && rmB (mt a) (mt m))))))
    | .invokestatic i => Nat.beq len 3 && (match t with
      | 2 => decide ((act[pl]?).map (fun q => (q.1, q.2.1)) = some (mcn m, i)) && rmX (mt m)
      | 3 => decide ((mlt[pl]?).map (fun q => (q.1, q.2.1, q.2.2.1, q.2.2.2.1)) = some (mcn m, i, mJm_min, 0)) && rmY (mt m)
      | 4 => decide ((mlt[pl]?).map (fun q => (q.1, q.2.1, q.2.2.1, q.2.2.2.1)) = some (mcn m, i, mJm_max, 0)) && rmY (mt m)
      | 5 => decide ((mlt[pl]?).map (fun q => (q.1, q.2.1, q.2.2.1, q.2.2.2.1)) = some (mcn m, i, mJm_abs, 0)) && rmY (mt m)
      | 1 => decide ((mlt[pl]?).map (fun q => (q.1, q.2.1, q.2.2.1, q.2.2.2.1)) = some (mcn m, i, a, 1)) && (Nat.blt a 292 && (Nat.beq (mtK a).1 1 && (Nat.beq (mtK a).2.1 b && rmB (mt a) (mt m))))
      | 0 => decide ((mlt[pl]?).map (fun q => (q.1, q.2.1, q.2.2.1, q.2.2.2.1)) = some (mcn m, i, a, 0)) && (Nat.blt a 292 && (Nat.beq (mtK a).1 1 && (Nat.beq (mtK a).2.1 b && rmB (mt a) (mt m))))
      | _ => false)
    | .aaload => (Nat.beq t 3 || Nat.beq t 4) && Nat.beq len 1
    | .aastore => ((Nat.beq t 3 && Nat.beq a 7) || (Nat.beq t 4 && Nat.beq a 1)) && Nat.beq len 1
    | .ireturn => (match t with
      | 0 => decide (mdT (mt m) = some .int)
      | _ => decide (mdT (mt m) = some .boolean)) && Nat.beq len 1
    | .lreturn => decide (mdT (mt m) = some .long) && Nat.beq len 1
    | .areturn => (match mdT (mt m) with
      | some (.object _) => true
      | _ => false) && Nat.beq len 1
    | .return_ => decide (mdT (mt m) = none) && Nat.beq len 1
    | _ => Nat.beq len 1)

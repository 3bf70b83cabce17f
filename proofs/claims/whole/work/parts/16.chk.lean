/-- an int's range -/
def r32 (c : Int) : Bool := decide (-2147483648 ≤ c) && decide (c < 2147483648)
/-- the answer's kind -/
def bol (r : Option FieldType) : Nat := match r with
  | some .int => 0
  | some .boolean => 1
  | some .long => 2
  | none => 3
  | _ => 4
def mpos : List (Nat × Nat × Nat) := [(0, 49, 1083), (3, 61, 845), (3, 102, 859), (5, 80, 776), (5, 86, 930), (5, 90, 933), (7, 95, 548)]
def selV (a : Nat) (A B C : Bool) : Bool := match a with
  | 9001 => A
  | 9002 => B
  | _ => C
def selS (a : Nat) (A B B2 B3 C : Bool) : Bool := match a with
  | 9003 => A
  | 9004 => B
  | 9005 => B2
  | 9006 => B3
  | _ => C
def chkLen (own idx : Nat) : Bool := (Nat.beq own 7 && Nat.beq idx 58) || (Nat.beq own 9 && Nat.beq idx 377)
def chkAt (own idx : Nat) : Bool := (Nat.beq own 7 && Nat.beq idx 100) || (Nat.beq own 9 && Nat.beq idx 382)
def chkMa (own idx : Nat) (y : MethodName) : Bool := mpos.any fun q => Nat.beq q.1 own && (Nat.beq q.2.1 idx && decide (lw_tbl[q.2.2]? = some (Cond.methodLink (xcn own) idx y)))
def ret4 (a4 : Nat) (ret : Option FieldType) : Bool := match a4 with
  | 0 => decide (ret = none)
  | _ => decide (ret ≠ none)
def chkVc (own idx k a2 a3 a4 : Nat) (c : Int) (ts : List Nat) : Bool := match mls[ts.headD 0]?, mts[k]? with
  | some (o, i, q, nest, _), some (ow, st, _, maxL, ret, _, _, _, _, np) => (Nat.beq o own && (Nat.beq i idx && (Nat.beq q k && Nat.beq nest 0))) && (Nat.beq st 0 && (Nat.beq a2 (np + 1) && (decide (c = (ow : Int)) && (Nat.beq a3 maxL && ret4 a4 ret))))
  | _, _ => false
def chkSc (own idx k a2 a3 a4 : Nat) (ts : List Nat) : Bool := match mls[ts.headD 0]?, mts[k]? with
  | some (o, i, q, _, _), some (_, st, _, maxL, ret, _, _, _, _, np) => (Nat.beq o own && (Nat.beq i idx && Nat.beq q k)) && (Nat.beq st 1 && (Nat.beq a2 np && (Nat.beq a3 maxL && (ret4 a4 ret && !Nat.beq k kLaw_law))))
  | _, _ => false
/-- an entry of a list agrees with the instruction that it names -/
def chkI (own bo ml : Nat) (e : xE) : Bool := match e with
  | (pc, ins, len, a1, a2, a3, a4, c, ts) => match ins with
    | .iconst n => Nat.beq len 1 && (decide (n = c) && r32 c)
    | .bipush n => Nat.beq len 2 && (decide ((Int8.ofInt n).toInt32 = Int32.ofInt c) && r32 c)
    | .sipush n => Nat.beq len 3 && (decide ((Int16.ofInt n).toInt32 = Int32.ofInt c) && r32 c)
    | .ldc idx => Nat.beq len 2 && (match a1 with
      | 0 => match cls_[ts.headD 0]? with
        | some (o, i, k, v, _) => Nat.beq o own && (Nat.beq i idx && (Nat.beq k 0 && decide (v = c)))
        | none => false
      | _ => Nat.beq own 7 && Nat.beq idx 56)
    | .ldc_w idx => Nat.beq len 3 && (match a1 with
      | 0 => match cls_[ts.headD 0]? with
        | some (o, i, k, v, _) => Nat.beq o own && (Nat.beq i idx && (Nat.beq k 0 && decide (v = c)))
        | none => false
      | _ => Nat.beq own 9 && Nat.beq idx 375)
    | .lconst n => Nat.beq len 1 && decide (((n : Nat) : Int) = c)
    | .ldc2_w idx => Nat.beq len 3 && (match cls_[ts.headD 0]? with
        | some (o, i, k, v, _) => Nat.beq o own && (Nat.beq i idx && ((match a1 with
          | 0 => Nat.beq k 1
          | _ => Nat.beq k 2) && decide (v = c)))
        | none => false)
    | .iload_n n => Nat.beq len 1 && decide ((n : Nat) = a1)
    | .lload_n n => Nat.beq len 1 && decide ((n : Nat) = a1)
    | .aload_n n => Nat.beq len 1 && decide ((n : Nat) = a1)
    | .istore_n n => Nat.beq len 1 && (decide ((n : Nat) = a1) && Nat.blt a1 ml)
    | .lstore_n n => Nat.beq len 1 && (decide ((n : Nat) = a1) && Nat.blt (a1 + 1) ml)
    | .astore_n n => Nat.beq len 1 && (decide ((n : Nat) = a1) && Nat.blt a1 ml)
    | .iload n => Nat.beq len 2 && Nat.beq n a1
    | .lload n => Nat.beq len 2 && Nat.beq n a1
    | .aload n => Nat.beq len 2 && Nat.beq n a1
    | .istore n => Nat.beq len 2 && (decide (n = a1) && Nat.blt a1 ml)
    | .lstore n => Nat.beq len 2 && (decide (n = a1) && Nat.blt (a1 + 1) ml)
    | .astore n => Nat.beq len 2 && (decide (n = a1) && Nat.blt a1 ml)
    | .iinc n v => Nat.beq len 3 && (Nat.beq n a1 && decide (v = c))
    | .goto off => Nat.beq len 3 && decide ((pc : Int) + off = (a1 : Int))
    | .if_icmp _ off => Nat.beq len 3 && decide ((pc : Int) + off = (a1 : Int))
    | .ifCond _ off => Nat.beq len 3 && decide ((pc : Int) + off = (a1 : Int))
    | .tableswitch d lo hi offs => decide ((pc : Int) + d = (a1 : Int)) && (decide (lo = 0) && (decide (hi + 1 = (ts.length : Int)) && decide (offs.toList.map (fun o => (pc : Int) + o) = ts.map (fun (t : Nat) => (t : Int)))))
    | .getfield idx => Nat.beq len 3 && ((match fls[ts.headD 0]? with
        | some (o, i, ci, k, _) => Nat.beq o own && (Nat.beq i idx && (Nat.beq ci a1 && Nat.beq k a2))
        | none => false) && decide (xfld a1 a2 = (a3, a4, c)))
    | .putfield idx => Nat.beq len 3 && ((match fls[ts.headD 0]? with
        | some (o, i, ci, k, _) => Nat.beq o own && (Nat.beq i idx && (Nat.beq ci a1 && Nat.beq k a2))
        | none => false) && (decide (xfld a1 a2 = (a3, a4, c)) && (match xcl[a1]? with
        | some (_, T, _) => !(T a2).2.2.2
        | none => false)))
    | .invokevirtual idx => Nat.beq len 3 && selV a1 (chkLen own idx) (chkAt own idx) (chkVc own idx a1 a2 a3 a4 c ts)
    | .invokestatic idx => Nat.beq len 3 && selS a1 (Nat.beq own 9 && Nat.beq idx 481) (chkMa own idx Lib.Math.min.name) (chkMa own idx Lib.MathLoose.max_long.x) (chkMa own idx Lib.MathLoose.min_long.x) (chkSc own idx a1 a2 a3 a4 ts)
    | .ireturn => Nat.beq len 1 && (Nat.beq a1 bo && Nat.ble bo 1)
    | .lreturn => Nat.beq len 1 && Nat.beq bo 2
    | .return_ => Nat.beq len 1 && Nat.beq bo 3
    | .lcmp => Nat.beq len 4
    | _ => Nat.beq len 1
def chkD (cc : ByteArray) (e : xE) : Bool := match e with
  | (pc, ins, len, a1, a2, _) => match ins with
    | .lcmp => decide (decode cc pc = .ok (.lcmp, 1)) && (match decode cc (pc + 1) with
      | .ok (.ifCond o off, 3) => decide (o = oc a2) && decide (((pc + 1 : Nat) : Int) + off = (a1 : Int))
      | _ => false)
    | _ => decide (decode cc pc = .ok (ins, len))
/-- all entries of a method's list agree -/
def xchk (k : Nat) : Bool := match mts[k]? with
  | some (own, _, _, ml, ret, pc, _) => (xC k).all (chkI own (bol ret) ml) && (xC k).all (chkD (xbyt pc))
  | none => false

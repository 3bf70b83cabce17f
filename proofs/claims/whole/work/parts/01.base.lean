/-! An abstract run of bytecode over numbers: values (tag, size, number), memory by cell and place. -/
abbrev xV : Type := Nat × Nat × Int
abbrev xM : Type := Int → Int → Int
abbrev xE : Type := Nat × Instr × Nat × Nat × Nat × Nat × Nat × Int × List Nat
abbrev xI (x : Int) : xV := (0, 0, x)
abbrev xL (x : Int) : xV := (1, 0, x)
abbrev xO (c : Nat) (a : Int) : xV := (2, c, a)
abbrev xAI (n : Nat) (a : Int) : xV := (3, n, a)
abbrev xAL (n : Nat) (a : Int) : xV := (4, n, a)
abbrev xAZ (n : Nat) (a : Int) : xV := (5, n, a)
abbrev xAT (n : Nat) (a : Int) : xV := (6, n, a)
abbrev xAR (n : Nat) (a : Int) : xV := (7, n, a)
abbrev xAB (n : Nat) (a : Int) : xV := (12, n, a)
abbrev xD (b : Int) : xV := (8, 0, b)
abbrev xU : xV := (9, 0, 0)
abbrev xS (i : Int) : xV := (10, 0, i)
abbrev xX : xV := (11, 0, 0)
/-- the number of the class of tables, the length of the rows of rows -/
abbrev xTab : Nat := 6
abbrev xRow : Nat := 17
def z32 (x : Int) : Int := x.bmod 4294967296
def z64 (x : Int) : Int := x.bmod 18446744073709551616
def up (M : xM) (a i v : Int) : xM := fun b j => if b = a then (if j = i then v else M b j) else M b j
def iand (x y : Int) : Int := (Int32.ofInt x &&& Int32.ofInt y).toInt
def ior (x y : Int) : Int := (Int32.ofInt x ||| Int32.ofInt y).toInt
def ishl (x y : Int) : Int := (Int32.ofInt x <<< (Int32.ofInt y &&& 31)).toInt
def ishr (x y : Int) : Int := (Int32.ofInt x >>> (Int32.ofInt y &&& 31)).toInt
def idiv (x y : Int) : Int := (Int32.ofInt x / Int32.ofInt y).toInt
def irem (x y : Int) : Int := (Int32.ofInt x - Int32.ofInt x / Int32.ofInt y * Int32.ofInt y).toInt
def i2b (x : Int) : Int := (Int32.ofInt x).toInt8.toInt32.toInt
def land (x y : Int) : Int := (Int64.ofInt x &&& Int64.ofInt y).toInt
def lor (x y : Int) : Int := (Int64.ofInt x ||| Int64.ofInt y).toInt
def lxor (x y : Int) : Int := (Int64.ofInt x ^^^ Int64.ofInt y).toInt
def lshl (x y : Int) : Int := (Int64.ofInt x <<< ((Int32.ofInt y).toInt64 &&& 63)).toInt
def lshr (x y : Int) : Int := (Int64.ofInt x >>> ((Int32.ofInt y).toInt64 &&& 63)).toInt
def lushr (x y : Int) : Int := ((Int64.ofInt x).toUInt64 >>> ((Int32.ofInt y).toInt64.toUInt64 &&& Int64.toUInt64 63)).toInt64.toInt
def ldiv (x y : Int) : Int := (Int64.ofInt x / Int64.ofInt y).toInt
def lrem (x y : Int) : Int := (Int64.ofInt x - Int64.ofInt x / Int64.ofInt y * Int64.ofInt y).toInt
def l2d (x : Int) : Int := ((FP.l2d (Int64.ofInt x)).toNat : Int)
def ddiv (x y : Int) : Int := ((FP.ddiv (UInt64.ofNat x.toNat) (UInt64.ofNat y.toNat)).toNat : Int)
/-- the bits are no NaN's -/
def dok (x : Int) : Prop := UInt64.ofNat x.toNat &&& 0x7fffffffffffffff ≤ 0x7ff0000000000000
/-- a number's bits as a long -/
def d2l (x : Int) : Int := (UInt64.ofNat x.toNat).toInt64.toInt
/-- the text of the constants: 'strides' -/
def strv (j : Int) : Int := [115, 116, 114, 105, 100, 101, 115].getD j.toNat 0
/-- the less, the greater of two -/
def mn (x y : Int) : Int := if y < x then y else x
def mx (x y : Int) : Int := if y < x then x else y
/-- a boolean goes out as 0 or 1 -/
def rb (x : Int) (P : Prop) : Prop := match x with
  | 0 => P
  | 1 => P
  | _ => (x = 0 ∨ x = 1) ∧ P
def cnd (o : ClassFile.Cond) (x y : Int) : Prop := match o with
  | .eq => x = y
  | .ne => ¬ x = y
  | .lt => x < y
  | .ge => y ≤ x
  | .gt => y < x
  | .le => x ≤ y
def oc (n : Nat) : ClassFile.Cond := match n with
  | 0 => .eq
  | 1 => .ne
  | 2 => .lt
  | 3 => .ge
  | 4 => .gt
  | _ => .le
def sI (S : List xV) (k : Int → List xV → Prop) : Prop := match S with
  | (0, _, x) :: T => k x T
  | _ => False
def sL (S : List xV) (k : Int → List xV → Prop) : Prop := match S with
  | (1, _, x) :: T => k x T
  | _ => False
def sD (S : List xV) (k : Int → List xV → Prop) : Prop := match S with
  | (8, _, x) :: T => k x T
  | _ => False
def sO (c : Nat) (S : List xV) (k : Int → List xV → Prop) : Prop := match S with
  | (2, d, x) :: T => match Nat.beq c d with
    | true => k x T
    | false => False
  | _ => False
/-- a place of a row: in its bounds -/
def sIn (j : Int) (n : Nat) (P : Prop) : Prop := (0 ≤ j ∧ j < (n : Int)) ∧ P
def sA (t : Nat) (S : List xV) (k : Nat → Int → List xV → Prop) : Prop := match S with
  | (u, n, a) :: T => match Nat.beq t u with
    | true => k n a T
    | false => False
  | _ => False
def isR (v : xV) : Bool := match v.1 with
  | 0 => false
  | 1 => false
  | 8 => false
  | 9 => false
  | _ => true
def two (v : xV) : Bool := match v.1 with
  | 1 => true
  | 8 => true
  | _ => false
/-- a slot that is the first of two, when the second is written over -/
def cutv (v : xV) : xV := match two v with
  | true => xU
  | false => v
def cut1 (L : List xV) (i : Nat) : List xV := match i with
  | 0 => L
  | j + 1 => L.set j (cutv (L.getD j xU))
def st1 (L : List xV) (i : Nat) (v : xV) : List xV := (cut1 L i).set i v
def st2 (L : List xV) (i : Nat) (v : xV) : List xV := ((cut1 L i).set (i + 1) xU).set i v
def lay1 : List xV → List xV
  | [] => []
  | v :: vs => match two v with
    | true => v :: xU :: lay1 vs
    | false => v :: lay1 vs
def lay (a : List xV) (n : Nat) : List xV := lay1 a ++ List.replicate (n - (lay1 a).length) xU
def wid : List xV → Nat
  | [] => 0
  | v :: vs => match two v with
    | true => wid vs + 2
    | false => wid vs + 1
/-- what a field gives: its kind, size, way -/
def fget (M : xM) (a : Int) (k kind n : Nat) (off : Int) : xV := match kind with
  | 0 => xI (M a k)
  | 1 => xL (M a k)
  | t => (t, n, a + off)
/-- the ends of a table of jumps: the number is i, i + 1, .. -/
def sw (nx : Nat → Prop) (x : Int) (d : Nat) : Nat → List Nat → Prop
  | _, [] => nx d
  | i, t :: ts => (x = (i : Int) → nx t) ∧ (¬ x = (i : Int) → sw nx x d (i + 1) ts)
/-- a call: so many values come off the stack, they fit its locals -/
def sC (n m : Nat) (S : List xV) (k : List xV → List xV → Prop) : Prop := match Nat.ble n S.length, Nat.ble (wid (S.drop n)) 8, Nat.ble (lay1 (S.take n).reverse).length m with
  | true, true, true => k (S.take n).reverse (S.drop n)
  | _, _, _ => False
/-- who is called: an object of a class -/
def sH (c : Nat) (as : List xV) (P : Prop) : Prop := match as with
  | (2, d, _) :: _ => match Nat.beq c d with
    | true => P
    | false => False
  | _ => False
/-- little is on the stack -/
def sW (T : List xV) (P : Prop) : Prop := match Nat.ble (wid T) 8 with
  | true => P
  | false => False
def sB (b : Bool) (P : Prop) : Prop := match b with
  | true => P
  | false => False
def sV (S : List xV) (k : xV → List xV → Prop) : Prop := match S with
  | v :: T => k v T
  | _ => False
def sZ (n : Nat) (A B : Prop) : Prop := match n with
  | 0 => A
  | _ => B
def s3 (n : Nat) (A B : Prop) : Prop := match n with
  | 0 => A
  | 1 => B
  | _ => False
def sJ (S : List xV) (k : Nat → Int → List xV → Prop) (m : List xV → Prop) : Prop := match S with
  | (3, n, a) :: T => k n a T
  | (11, _, _) :: T => m T
  | _ => False
def sK (S : List xV) (k m : Nat → Int → List xV → Prop) : Prop := match S with
  | (6, n, a) :: T => k n a T
  | (7, n, a) :: T => m n a T
  | _ => False
def sY (S : List xV) (k m : Nat → Int → List xV → Prop) : Prop := match S with
  | (5, n, a) :: T => k n a T
  | (12, n, a) :: T => m n a T
  | _ => False
def sS (t : Nat) (S : List xV) (k : List xV → Prop) : Prop := match S with
  | (u, _, _) :: T => match Nat.beq t u with
    | true => k T
    | false => False
  | _ => False
def sMv (n : Nat) (A B C : Prop) : Prop := match n with
  | 9001 => A
  | 9002 => B
  | _ => C
def sMs (n : Nat) (A B B2 B3 C : Prop) : Prop := match n with
  | 9003 => A
  | 9004 => B
  | 9005 => B2
  | 9006 => B3
  | _ => C
def r1 (S : List xV) (k : Int → Prop) : Prop := match S with
  | [(0, _, x)] => k x
  | _ => False
def r2 (S : List xV) (k : Int → Prop) : Prop := match S with
  | [(1, _, x)] => k x
  | _ => False
def r0 (S : List xV) (k : Prop) : Prop := match S with
  | [] => k
  | _ => False
def pushr (n : Nat) (r : xV) (T : List xV) : List xV := match n with
  | 0 => T
  | _ => r :: T
/-- one instruction: nx goes on at a place, cl calls a method with locals, Q takes what is answered -/
def one (nx nc : Nat → List xV → List xV → xM → Prop) (cl : Nat → List xV → xM → (xV → xM → Prop) → Prop) (Q : xV → xM → Prop) (e : xE) (L S : List xV) (M : xM) : Prop :=
  match e with
  | (pc, ins, len, a1, a2, a3, a4, c, ts) => match ins with
    | .iconst _ => nx (pc + len) L (xI c :: S) M
    | .bipush _ => nx (pc + len) L (xI c :: S) M
    | .sipush _ => nx (pc + len) L (xI c :: S) M
    | .ldc _ => sZ a1 (nx (pc + len) L (xI c :: S) M) (nx (pc + len) L (xS c :: S) M)
    | .ldc_w _ => sZ a1 (nx (pc + len) L (xI c :: S) M) (nx (pc + len) L (xS c :: S) M)
    | .lconst _ => nx (pc + len) L (xL c :: S) M
    | .ldc2_w _ => sZ a1 (nx (pc + len) L (xL c :: S) M) (nx (pc + len) L (xD c :: S) M)
    | .iload_n _ => sI [L.getD a1 xU] fun x _ => nx (pc + len) L (xI x :: S) M
    | .iload _ => sI [L.getD a1 xU] fun x _ => nx (pc + len) L (xI x :: S) M
    | .lload_n _ => sL [L.getD a1 xU] fun x _ => nx (pc + len) L (xL x :: S) M
    | .lload _ => sL [L.getD a1 xU] fun x _ => nx (pc + len) L (xL x :: S) M
    | .aload_n _ => sB (isR (L.getD a1 xU)) (nx (pc + len) L (L.getD a1 xU :: S) M)
    | .aload _ => sB (isR (L.getD a1 xU)) (nx (pc + len) L (L.getD a1 xU :: S) M)
    | .istore_n _ => sI S fun x T => nx (pc + len) (st1 L a1 (xI x)) T M
    | .istore _ => sI S fun x T => nx (pc + len) (st1 L a1 (xI x)) T M
    | .lstore_n _ => sL S fun x T => nx (pc + len) (st2 L a1 (xL x)) T M
    | .lstore _ => sL S fun x T => nx (pc + len) (st2 L a1 (xL x)) T M
    | .astore_n _ => sV S fun v T => sB (isR v) (nx (pc + len) (st1 L a1 v) T M)
    | .astore _ => sV S fun v T => sB (isR v) (nx (pc + len) (st1 L a1 v) T M)
    | .iinc _ _ => sI [L.getD a1 xU] fun x _ => nx (pc + len) (st1 L a1 (xI (z32 (x + c)))) S M
    | .iadd => sI S fun y T => sI T fun x T => nx (pc + len) L (xI (z32 (x + y)) :: T) M
    | .isub => sI S fun y T => sI T fun x T => nx (pc + len) L (xI (z32 (x - y)) :: T) M
    | .imul => sI S fun y T => sI T fun x T => nx (pc + len) L (xI (z32 (x * y)) :: T) M
    | .iand => sI S fun y T => sI T fun x T => nx (pc + len) L (xI (iand x y) :: T) M
    | .ior => sI S fun y T => sI T fun x T => nx (pc + len) L (xI (ior x y) :: T) M
    | .ishl => sI S fun y T => sI T fun x T => nx (pc + len) L (xI (ishl x y) :: T) M
    | .ishr => sI S fun y T => sI T fun x T => nx (pc + len) L (xI (ishr x y) :: T) M
    | .idiv => sI S fun y T => sI T fun x T => ¬ y = 0 ∧ nx (pc + len) L (xI (idiv x y) :: T) M
    | .irem => sI S fun y T => sI T fun x T => ¬ y = 0 ∧ nx (pc + len) L (xI (irem x y) :: T) M
    | .i2b => sI S fun x T => nx (pc + len) L (xI (i2b x) :: T) M
    | .i2l => sI S fun x T => nx (pc + len) L (xL x :: T) M
    | .l2i => sL S fun x T => nx (pc + len) L (xI (z32 x) :: T) M
    | .l2d => sL S fun x T => nx (pc + len) L (xD (l2d x) :: T) M
    | .ladd => sL S fun y T => sL T fun x T => nx (pc + len) L (xL (z64 (x + y)) :: T) M
    | .lsub => sL S fun y T => sL T fun x T => nx (pc + len) L (xL (z64 (x - y)) :: T) M
    | .lmul => sL S fun y T => sL T fun x T => nx (pc + len) L (xL (z64 (x * y)) :: T) M
    | .land => sL S fun y T => sL T fun x T => nx (pc + len) L (xL (land x y) :: T) M
    | .lor => sL S fun y T => sL T fun x T => nx (pc + len) L (xL (lor x y) :: T) M
    | .lxor => sL S fun y T => sL T fun x T => nx (pc + len) L (xL (lxor x y) :: T) M
    | .ldiv => sL S fun y T => sL T fun x T => ¬ y = 0 ∧ nx (pc + len) L (xL (ldiv x y) :: T) M
    | .lrem => sL S fun y T => sL T fun x T => ¬ y = 0 ∧ nx (pc + len) L (xL (lrem x y) :: T) M
    | .lshl => sI S fun y T => sL T fun x T => nx (pc + len) L (xL (lshl x y) :: T) M
    | .lshr => sI S fun y T => sL T fun x T => nx (pc + len) L (xL (lshr x y) :: T) M
    | .lushr => sI S fun y T => sL T fun x T => nx (pc + len) L (xL (lushr x y) :: T) M
    | .lneg => sL S fun x T => nx (pc + len) L (xL (z64 (- x)) :: T) M
    | .ddiv => sD S fun y T => sD T fun x T => dok (ddiv x y) ∧ nx (pc + len) L (xD (ddiv x y) :: T) M
    | .dup => sV S fun v T => sB (!two v) (nx (pc + len) L (v :: v :: T) M)
    | .dup2 => sV S fun v T => sV T fun w T => sB (!two v && !two w) (nx (pc + len) L (v :: w :: v :: w :: T) M)
    | .pop => sV S fun v T => sB (!two v) (nx (pc + len) L T M)
    | .goto _ => nx a1 L S M
    | .if_icmp o _ => sI S fun y T => sI T fun x T => (cnd o x y → nx a1 L T M) ∧ (¬ cnd o x y → nx (pc + len) L T M)
    | .ifCond o _ => sI S fun x T => (cnd o x 0 → nx a1 L T M) ∧ (¬ cnd o x 0 → nx (pc + len) L T M)
    | .lcmp => sL S fun y T => sL T fun x T => (cnd (oc a2) x y → nx a1 L T M) ∧ (¬ cnd (oc a2) x y → nx (pc + len) L T M)
    | .tableswitch _ _ _ _ => sI S fun x T => sw (fun t => nx t L T M) x a1 0 ts
    | .getfield _ => sO a1 S fun a T => nx (pc + len) L (fget M a a2 a3 a4 c :: T) M
    | .putfield _ => s3 a3
        (sI S fun x T => sO a1 T fun a T => sZ a4 (nx (pc + len) L T (up M a a2 x)) (rb x (nx (pc + len) L T (up M a a2 x))))
        (sL S fun x T => sO a1 T fun a T => nx (pc + len) L T (up M a a2 x))
    | .iaload => sI S fun j T => sJ T (fun n a T => sIn j n (nx (pc + len) L (xI (M a j) :: T) M)) (fun T => sIn j (M (-1) 0).toNat (nx (pc + len) L (xI (M (-1) (j + 1)) :: T) M))
    | .laload => sI S fun j T => sA 4 T fun n a T => sIn j n (nx (pc + len) L (xL (M a j) :: T) M)
    | .baload => sI S fun j T => sY T (fun n a T => sIn j n (nx (pc + len) L (xI (M a j) :: T) M)) (fun n a T => sIn j n (nx (pc + len) L (xI (M a j) :: T) M))
    | .aaload => sI S fun j T => sK T (fun n a T => sIn j n (nx (pc + len) L (xO xTab (M a j) :: T) M)) (fun n a T => sIn j n (nx (pc + len) L (xAL xRow (M a j) :: T) M))
    | .arraylength => sS 11 S fun T => nx (pc + len) L (xI (M (-1) 0) :: T) M
    | .iastore => sI S fun x T => sI T fun j T => sA 3 T fun n a T => sIn j n (nx (pc + len) L T (up M a j x))
    | .lastore => sL S fun x T => sI T fun j T => sA 4 T fun n a T => sIn j n (nx (pc + len) L T (up M a j x))
    | .bastore => sI S fun x T => sI T fun j T => sY T (fun n a T => sIn j n (rb x (nx (pc + len) L T (up M a j x)))) (fun n a T => sIn j n (nx (pc + len) L T (up M a j (i2b x))))
    | .aastore => sO xTab S fun x T => sI T fun j T => sA 6 T fun n a T => sIn j n (nx (pc + len) L T (up M a j x))
    | .invokevirtual _ => sMv a1 (sS 10 S fun T => sW T (nx (pc + len) L (xI 7 :: T) M))
        (sI S fun j T => sS 10 T fun T => sW T (sIn j 7 (nx (pc + len) L (xI (strv j) :: T) M)))
        (sC a2 a3 S fun as T => sH c.toNat as (cl a1 (lay as a3) M fun r N => nc (pc + len) L (pushr a4 r T) N))
    | .invokestatic _ => sMs a1 (sD S fun x T => sW T (dok x ∧ nx (pc + len) L (xL (d2l x) :: T) M))
        (sI S fun y T => sI T fun x T => sW T (nx (pc + len) L (xI (mn x y) :: T) M))
        (sL S fun y T => sL T fun x T => sW T (nx (pc + len) L (xL (mx x y) :: T) M))
        (sL S fun y T => sL T fun x T => sW T (nx (pc + len) L (xL (mn x y) :: T) M))
        (sC a2 a3 S fun as T => cl a1 (lay as a3) M fun r N => nc (pc + len) L (pushr a4 r T) N)
    | .ireturn => r1 S fun x => sZ a1 (Q (xI x) M) (rb x (Q (xI x) M))
    | .lreturn => r2 S fun x => Q (xL x) M
    | .return_ => r0 S (Q xU M)
    | _ => False
theorem sI_m {S : List xV} {k k2 : Int → List xV → Prop} (h : ∀ x T, k x T → k2 x T) : sI S k → sI S k2 := by
  unfold sI; split
  · exact h _ _
  · exact id
theorem sL_m {S : List xV} {k k2 : Int → List xV → Prop} (h : ∀ x T, k x T → k2 x T) : sL S k → sL S k2 := by
  unfold sL; split
  · exact h _ _
  · exact id
theorem sD_m {S : List xV} {k k2 : Int → List xV → Prop} (h : ∀ x T, k x T → k2 x T) : sD S k → sD S k2 := by
  unfold sD; split
  · exact h _ _
  · exact id
theorem sO_m {c : Nat} {S : List xV} {k k2 : Int → List xV → Prop} (h : ∀ x T, k x T → k2 x T) : sO c S k → sO c S k2 := by
  unfold sO; split
  · split
    · exact h _ _
    · exact id
  · exact id
theorem sA_m {t : Nat} {S : List xV} {k k2 : Nat → Int → List xV → Prop} (h : ∀ n x T, k n x T → k2 n x T) : sA t S k → sA t S k2 := by
  unfold sA; split
  · split
    · exact h _ _ _
    · exact id
  · exact id
theorem sIn_m {j : Int} {n : Nat} {P P2 : Prop} (h : P → P2) : sIn j n P → sIn j n P2 := fun q => ⟨q.1, h q.2⟩
theorem rb_m {x : Int} {P P2 : Prop} (h : P → P2) : rb x P → rb x P2 := by
  unfold rb; split
  · exact h
  · exact h
  · exact fun q => ⟨q.1, h q.2⟩
theorem sB_m {b : Bool} {P P2 : Prop} (h : P → P2) : sB b P → sB b P2 := by
  unfold sB; split
  · exact h
  · exact id
theorem sV_m {S : List xV} {k k2 : xV → List xV → Prop} (h : ∀ x T, k x T → k2 x T) : sV S k → sV S k2 := by
  unfold sV; split
  · exact h _ _
  · exact id
theorem sZ_m {n : Nat} {A B A2 B2 : Prop} (h : A → A2) (h2 : B → B2) : sZ n A B → sZ n A2 B2 := by
  unfold sZ; split
  · exact h
  · exact h2
theorem s3_m {n : Nat} {A B A2 B2 : Prop} (h : A → A2) (h2 : B → B2) : s3 n A B → s3 n A2 B2 := by
  unfold s3; split
  · exact h
  · exact h2
  · exact id
theorem sJ_m {S : List xV} {k k2 : Nat → Int → List xV → Prop} {m m2 : List xV → Prop} (h : ∀ n x T, k n x T → k2 n x T) (h2 : ∀ T, m T → m2 T) : sJ S k m → sJ S k2 m2 := by
  unfold sJ; split
  · exact h _ _ _
  · exact h2 _
  · exact id
theorem sK_m {S : List xV} {k k2 m m2 : Nat → Int → List xV → Prop} (h : ∀ n x T, k n x T → k2 n x T) (h2 : ∀ n x T, m n x T → m2 n x T) : sK S k m → sK S k2 m2 := by
  unfold sK; split
  · exact h _ _ _
  · exact h2 _ _ _
  · exact id
theorem sY_m {S : List xV} {k k2 m m2 : Nat → Int → List xV → Prop} (h : ∀ n x T, k n x T → k2 n x T) (h2 : ∀ n x T, m n x T → m2 n x T) : sY S k m → sY S k2 m2 := by
  unfold sY; split
  · exact h _ _ _
  · exact h2 _ _ _
  · exact id
theorem sS_m {t : Nat} {S : List xV} {k k2 : List xV → Prop} (h : ∀ T, k T → k2 T) : sS t S k → sS t S k2 := by
  unfold sS; split
  · split
    · exact h _
    · exact id
  · exact id
theorem sMv_m {n : Nat} {A B C A2 B2 C2 : Prop} (h : A → A2) (h2 : B → B2) (h3 : C → C2) : sMv n A B C → sMv n A2 B2 C2 := by
  unfold sMv; split
  · exact h
  · exact h2
  · exact h3
theorem sMs_m {n : Nat} {A B B2 B3 C A' B' B2' B3' C' : Prop} (h : A → A') (h1 : B → B') (h2 : B2 → B2') (h3 : B3 → B3') (h4 : C → C') : sMs n A B B2 B3 C → sMs n A' B' B2' B3' C' := by
  unfold sMs; split
  · exact h
  · exact h1
  · exact h2
  · exact h3
  · exact h4
theorem sC_m {n m : Nat} {S : List xV} {k k2 : List xV → List xV → Prop} (h : ∀ x T, k x T → k2 x T) : sC n m S k → sC n m S k2 := by
  unfold sC; split
  · exact h _ _
  · exact id
theorem sH_m {c : Nat} {as : List xV} {P P2 : Prop} (h : P → P2) : sH c as P → sH c as P2 := by
  unfold sH; split
  · split
    · exact h
    · exact id
  · exact id
theorem sW_m {T : List xV} {P P2 : Prop} (h : P → P2) : sW T P → sW T P2 := by
  unfold sW; split
  · exact h
  · exact id
theorem r1_m {S : List xV} {k k2 : Int → Prop} (h : ∀ x, k x → k2 x) : r1 S k → r1 S k2 := by
  unfold r1; split
  · exact h _
  · exact id
theorem r2_m {S : List xV} {k k2 : Int → Prop} (h : ∀ x, k x → k2 x) : r2 S k → r2 S k2 := by
  unfold r2; split
  · exact h _
  · exact id
theorem r0_m {S : List xV} {k k2 : Prop} (h : k → k2) : r0 S k → r0 S k2 := by
  unfold r0; split
  · exact h
  · exact id
theorem br_m {c A B A2 B2 : Prop} (h : A → A2) (h2 : B → B2) : (c → A) ∧ (¬ c → B) → (c → A2) ∧ (¬ c → B2) := fun q => ⟨fun z => h (q.1 z), fun z => h2 (q.2 z)⟩
theorem gd_m {c A A2 : Prop} (h : A → A2) : c ∧ A → c ∧ A2 := fun q => ⟨q.1, h q.2⟩
theorem sw_m {nx nx2 : Nat → Prop} (h : ∀ t, nx t → nx2 t) {x : Int} {d : Nat} : ∀ {i : Nat} {ts : List Nat}, sw nx x d i ts → sw nx2 x d i ts
  | _, [] => h d
  | _, _ :: _ => br_m (h _) (sw_m h)
set_option maxHeartbeats 4000000 in
theorem one_m {nx nx2 nc nc2 : Nat → List xV → List xV → xM → Prop} {cl cl2 : Nat → List xV → xM → (xV → xM → Prop) → Prop} {Q Q2 : xV → xM → Prop} (hn : ∀ pc L S M, nx pc L S M → nx2 pc L S M) (hd : ∀ pc L S M, nc pc L S M → nc2 pc L S M)
    (hc : ∀ k L M q q2, (∀ r N, q r N → q2 r N) → cl k L M q → cl2 k L M q2) (hQ : ∀ v M, Q v M → Q2 v M) (e : xE) (L S : List xV) (M : xM) : one nx nc cl Q e L S M → one nx2 nc2 cl2 Q2 e L S M := by
  obtain ⟨pc, ins, len, a1, a2, a3, a4, c, ts⟩ := e
  cases ins <;> dsimp only [one] <;>
    repeat' first
      | exact hn _ _ _ _
      | exact hQ _ _
      | exact id
      | exact hc _ _ _ _ _ (fun _ _ => hd _ _ _ _)
      | refine sI_m fun _ _ => ?_
      | refine sL_m fun _ _ => ?_
      | refine sD_m fun _ _ => ?_
      | refine sO_m fun _ _ => ?_
      | refine sA_m fun _ _ _ => ?_
      | refine sV_m fun _ _ => ?_
      | refine sC_m fun _ _ => ?_
      | refine sS_m fun _ => ?_
      | refine sw_m fun _ => ?_
      | refine r1_m fun _ => ?_
      | refine r2_m fun _ => ?_
      | refine r0_m ?_
      | refine sIn_m ?_
      | refine sH_m ?_
      | refine sW_m ?_
      | refine rb_m ?_
      | refine sB_m ?_
      | refine sZ_m ?_ ?_
      | refine s3_m ?_ ?_
      | refine sJ_m (fun _ _ _ => ?_) (fun _ => ?_)
      | refine sK_m (fun _ _ _ => ?_) (fun _ _ _ => ?_)
      | refine sY_m (fun _ _ _ => ?_) (fun _ _ _ => ?_)
      | refine sMv_m ?_ ?_ ?_
      | refine sMs_m ?_ ?_ ?_ ?_ ?_
      | refine br_m ?_ ?_
      | refine gd_m ?_
/-- the code from a place on -/
def sf : List xE → Nat → List xE
  | [], _ => []
  | e :: es, pc => match Nat.beq e.1 pc with
    | true => e :: es
    | false => sf es pc
def nmem : List Nat → Nat → Bool
  | [], _ => false
  | n :: ns, m => match Nat.beq n m with
    | true => true
    | false => nmem ns m
def gof (cd es : List xE) (pc : Nat) : List xE := match es with
  | f :: fs => match Nat.beq f.1 pc with
    | true => f :: fs
    | false => sf cd pc
  | [] => sf cd pc
/-- a depth of calls is left -/
def sd (d : Nat) (k : Nat → Prop) : Prop := match d with
  | 0 => False
  | n + 1 => k n
abbrev xQ : Type := xV → xM → Prop
abbrev xP : Type := Nat → Nat → Nat → List xV → List xV → xM → xQ → Prop
/-- what holds ahead of an instruction if it holds behind it -/
def xClosed (C : Nat → List xE) (P : xP) : Prop := ∀ (d k : Nat) (L S : List xV) (M : xM) (Q : xQ) (e : xE), e ∈ C k →
  one (fun pc L S M => P d k pc L S M Q) (fun pc L S M => P d k pc L S M Q) (fun k' L' M q => sd d fun d' => P d' k' 0 L' [] M q) Q e L S M → P d k e.1 L S M Q
def xMono (P : xP) : Prop := ∀ (d k pc : Nat) (L S : List xV) (M : xM) (Q Q2 : xQ), (∀ v N, Q v N → Q2 v N) → P d k pc L S M Q → P d k pc L S M Q2
def RuC (C : Nat → List xE) (d k pc : Nat) (L S : List xV) (M : xM) (Q : xQ) : Prop := ∀ P : xP, xClosed C P → xMono P → P d k pc L S M Q
theorem RuC.mono {C : Nat → List xE} {d k pc : Nat} {L S : List xV} {M : xM} {Q Q2 : xQ} (h : ∀ v N, Q v N → Q2 v N) (r : RuC C d k pc L S M Q) : RuC C d k pc L S M Q2 := fun P hc hm => hm _ _ _ _ _ _ _ _ h (r P hc hm)
theorem sd_m {d : Nat} {k k2 : Nat → Prop} (h : ∀ n, k n → k2 n) : sd d k → sd d k2 := by
  unfold sd; split
  · exact id
  · exact h _
theorem RuC.step {C : Nat → List xE} {d k : Nat} {L S : List xV} {M : xM} {Q : xQ} {e : xE} (he : e ∈ C k)
    (h : one (fun pc L S M => RuC C d k pc L S M Q) (fun pc L S M => RuC C d k pc L S M Q) (fun k' L' M q => sd d fun d' => RuC C d' k' 0 L' [] M q) Q e L S M) : RuC C d k e.1 L S M Q := by
  intro P hc hm
  refine hc d k L S M Q e he (one_m (fun pc L S M r => r P hc hm) (fun pc L S M r => r P hc hm) ?_ (fun _ _ => id) e L S M h)
  intro k' L' M q q2 hq
  exact sd_m fun d' r => hm _ _ _ _ _ _ _ _ hq (r P hc hm)
/-- instructions up to the places st, to calls, to the end -/
def sxC (C : Nat → List xE) (st : List Nat) (d k : Nat) (Q : xQ) (cd : List xE) : Nat → List xE → List xV → List xV → xM → Prop
  | 0, _, _, _, _ => False
  | _ + 1, [], _, _, _ => False
  | n + 1, e :: es, L, S, M => one (fun pc L S M => match nmem st pc with
      | true => RuC C d k pc L S M Q
      | false => sxC C st d k Q cd n (gof cd es pc) L S M) (fun pc L S M => RuC C d k pc L S M Q) (fun k' L' M q => sd d fun d' => RuC C d' k' 0 L' [] M q) Q e L S M
theorem sf_sub : ∀ (cd : List xE) (pc : Nat) (e : xE), e ∈ sf cd pc → e ∈ cd
  | [], _, _, h => h
  | f :: fs, pc, e, h => by
    unfold sf at h
    split at h
    · exact h
    · exact List.mem_cons_of_mem _ (sf_sub fs pc e h)
theorem sf_head : ∀ (cd : List xE) (pc : Nat) (e : xE) (es : List xE), sf cd pc = e :: es → e.1 = pc
  | [], _, _, _, h => by cases h
  | f :: fs, pc, e, es, h => by
    unfold sf at h
    split at h
    · rename_i hb
      cases h
      exact Nat.eq_of_beq_eq_true hb
    · exact sf_head fs pc e es h
theorem sx_all {C : Nat → List xE} {st : List Nat} {d k : Nat} {Q : xQ} {cd : List xE} (hcd : C k = cd) : ∀ (n : Nat) (is : List xE) (pc : Nat) (L S : List xV) (M : xM), (∀ e ∈ is, e ∈ cd) → (∀ e es, is = e :: es → e.1 = pc) → sxC C st d k Q cd n is L S M → RuC C d k pc L S M Q
  | 0, _, _, _, _, _, _, _, h => h.elim
  | n + 1, [], _, _, _, _, _, _, h => h.elim
  | n + 1, e :: es, pc, L, S, M, hm, hp, h => by
    have hp := hp e es rfl
    subst hp
    refine RuC.step (by rw [hcd]; exact hm e List.mem_cons_self) (one_m ?_ (fun _ _ _ _ => id) ?_ (fun _ _ => id) e L S M h)
    · intro pc L S M h
      split at h
      · exact h
      · refine sx_all hcd n _ pc L S M ?_ ?_ h
        · intro f hf
          unfold gof at hf
          split at hf
          · split at hf
            · exact hm f (List.mem_cons_of_mem _ hf)
            · exact sf_sub _ _ _ hf
          · exact sf_sub _ _ _ hf
        · intro f fs hf
          unfold gof at hf
          split at hf
          · split at hf
            · rename_i hb
              cases hf
              exact Nat.eq_of_beq_eq_true hb
            · exact sf_head _ _ _ _ hf
          · exact sf_head _ _ _ _ hf
    · intro k' L' M q q2 hq
      exact sd_m fun d' r => r.mono hq
theorem sxC_ok {C : Nat → List xE} (cd : List xE) (n : Nat) (st : List Nat) {d k pc : Nat} {Q : xQ} {L S : List xV} {M : xM} (hcd : C k = cd) (h : sxC C st d k Q cd n (sf cd pc) L S M) : RuC C d k pc L S M Q :=
  sx_all hcd n _ pc L S M (fun _ he => sf_sub _ _ _ he) (fun _ _ he => sf_head _ _ _ _ he) h

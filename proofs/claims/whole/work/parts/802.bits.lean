/-! BITS: a long as a number below 2^64; bits counted. -/
def ub (x : Int) : Nat := (x % 18446744073709551616).toNat
theorem ub_lt (x : Int) : ub x < 18446744073709551616 := by unfold ub; omega
theorem ub_bv (x : Int) : (BitVec.ofInt 64 x).toNat = ub x := by
  rw [BitVec.toNat_ofInt]; rfl
theorem ub_64 (y : Int64) : ub y.toInt = y.toBitVec.toNat := by
  have h : BitVec.ofInt 64 y.toInt = y.toBitVec := by
    show BitVec.ofInt 64 y.toBitVec.toInt = y.toBitVec
    exact BitVec.ofInt_toInt
  rw [← ub_bv, h]
theorem ub_land (x y : Int) : ub (land x y) = ub x &&& ub y := by
  unfold land
  rw [ub_64, Int64.toBitVec_and, BitVec.toNat_and, bv64, bv64, ub_bv, ub_bv]
theorem ub_lor (x y : Int) : ub (lor x y) = ub x ||| ub y := by
  unfold lor
  rw [ub_64, Int64.toBitVec_or, BitVec.toNat_or, bv64, bv64, ub_bv, ub_bv]
theorem ub_z64 (x : Int) : ub (z64 x) = ub x := by
  unfold ub z64
  rw [show (x.bmod 18446744073709551616) % 18446744073709551616 = x % 18446744073709551616 from Int.bmod_emod ..]
theorem ub_sub {a b : Int} (h : ub b ≤ ub a) : ub (z64 (a - b)) = ub a - ub b := by
  rw [ub_z64]
  unfold ub at h ⊢
  omega
theorem ub_add {a b : Int} (h : ub a + ub b < 18446744073709551616) : ub (z64 (a + b)) = ub a + ub b := by
  rw [ub_z64]
  unfold ub at h ⊢
  omega
theorem ub_id {x : Int} (h0 : 0 ≤ x) (h1 : x < 18446744073709551616) : (ub x : Int) = x := by unfold ub; omega
theorem ub_nat {n : Nat} (h : n < 18446744073709551616) : ub (n : Int) = n := by unfold ub; omega
theorem ub_z {x : Int} (h : -9223372036854775808 ≤ x) (h2 : x < 9223372036854775808) : z64 (ub x : Int) = x := by
  have e : z64 (ub x : Int) = z64 x := by
    unfold ub z64
    rw [Int.toNat_of_nonneg (Int.emod_nonneg _ (by decide))]
    exact Int.emod_bmod ..
  rw [e, z64_id h h2]
theorem ub_inj {x y : Int} (h : -9223372036854775808 ≤ x) (h2 : x < 9223372036854775808) (g : -9223372036854775808 ≤ y) (g2 : y < 9223372036854775808) (e : ub x = ub y) : x = y := by
  rw [← ub_z h h2, ← ub_z g g2, e]
theorem shu64 : ∀ s : Nat, s < 64 → (((Int32.ofInt (s : Int)).toInt64.toUInt64 &&& Int64.toUInt64 63).toBitVec.toNat % 64) = s := by decide +kernel
theorem ub_lushr {x : Int} {s : Nat} (hs : s < 64) : ub (lushr x s) = ub x >>> s := by
  unfold lushr
  rw [ub_64]
  show (((Int64.ofInt x).toUInt64 >>> ((Int32.ofInt (s : Int)).toInt64.toUInt64 &&& Int64.toUInt64 63)).toBitVec).toNat = _
  rw [UInt64.toBitVec_shiftRight, BitVec.ushiftRight_eq', BitVec.toNat_ushiftRight]
  have e1 : (((Int32.ofInt (s : Int)).toInt64.toUInt64 &&& Int64.toUInt64 63).toBitVec % 64).toNat = s := by
    rw [BitVec.toNat_umod]
    exact shu64 s hs
  rw [e1]
  show (BitVec.ofInt 64 x).toNat >>> s = _
  rw [ub_bv]
/-- bits of a number -/
def pcn (x : Nat) : Nat → Nat
  | 0 => 0
  | n + 1 => pcn x n + (x / 2 ^ n) % 2
def pc8 (b : Nat) : Nat := b % 2 + b / 2 % 2 + b / 4 % 2 + b / 8 % 2 + b / 16 % 2 + b / 32 % 2 + b / 64 % 2 + b / 128 % 2
def by8 (a0 a1 a2 a3 a4 a5 a6 a7 : Nat) : Nat := a0 + 256 * (a1 + 256 * (a2 + 256 * (a3 + 256 * (a4 + 256 * (a5 + 256 * (a6 + 256 * a7))))))
theorem and_mod (a m : Nat) : (a &&& m) % 256 = (a % 256) &&& (m % 256) := Nat.and_mod_two_pow (n := 8)
theorem and_div (a m : Nat) : (a &&& m) / 256 = (a / 256) &&& (m / 256) := Nat.and_div_two_pow (n := 8)
theorem and_split {a m x y : Nat} (hx : (a % 256) &&& (m % 256) = x) (hy : (a / 256) &&& (m / 256) = y) : a &&& m = x + 256 * y := by
  have h1 := and_mod a m
  have h2 := and_div a m
  rw [hx] at h1
  rw [hy] at h2
  omega
theorem d55 : ∀ b : Nat, b < 256 → ∀ c : Nat, c < 2 → (b / 2 + 128 * c) &&& 0x55 = (b / 2) &&& 0x55 ∧ ((b / 2) &&& 0x55) ≤ b := by decide +kernel
theorem d33 : ∀ b : Nat, b < 256 → ∀ c : Nat, c < 4 → (b / 4 + 64 * c) &&& 0x33 = (b / 4) &&& 0x33 := by decide +kernel
theorem s55 {b y m : Nat} (hb : b < 256) (hm : m % 256 = 0x55) : ((b + 256 * y) / 2) &&& m = ((b / 2) &&& 0x55) + 256 * ((y / 2) &&& (m / 256)) := by
  refine and_split ?_ ?_
  · rw [hm, show (b + 256 * y) / 2 % 256 = b / 2 + 128 * (y % 2) by omega]
    exact (d55 b hb (y % 2) (by omega)).1
  · rw [show (b + 256 * y) / 2 / 256 = y / 2 by omega]
theorem s33 {b y m : Nat} (hb : b < 256) (hm : m % 256 = 0x33) : ((b + 256 * y) / 4) &&& m = ((b / 4) &&& 0x33) + 256 * ((y / 4) &&& (m / 256)) := by
  refine and_split ?_ ?_
  · rw [hm, show (b + 256 * y) / 4 % 256 = b / 4 + 64 * (y % 4) by omega]
    exact d33 b hb (y % 4) (by omega)
  · rw [show (b + 256 * y) / 4 / 256 = y / 4 by omega]
theorem s0 {b y m k : Nat} (hb : b < 256) (hm : m % 256 = k) : (b + 256 * y) &&& m = (b &&& k) + 256 * (y &&& (m / 256)) := by
  refine and_split ?_ ?_
  · rw [hm, show (b + 256 * y) % 256 = b by omega]
  · rw [show (b + 256 * y) / 256 = y by omega]
def p1 (b : Nat) : Nat := b - ((b / 2) &&& 0x55)
def p2 (b : Nat) : Nat := (b &&& 0x33) + ((b / 4) &&& 0x33)
theorem d8 : ∀ b : Nat, b < 256 → p1 b < 256 ∧ p2 (p1 b) % 16 ≤ 4 ∧ p2 (p1 b) / 16 ≤ 4 ∧ p2 (p1 b) % 16 + p2 (p1 b) / 16 = pc8 b := by decide +kernel

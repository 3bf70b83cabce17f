/-! NUMBERS: wrapping, bits, widths. -/
theorem z32_id {x : Int} (h : -2147483648 ≤ x) (h2 : x < 2147483648) : z32 x = x := by
  have e : z32 x = (Int32.ofInt x).toInt := by rw [Int32.toInt_ofInt]; rfl
  rw [e, t32 ⟨h, h2⟩]
theorem z64_id {x : Int} (h : -9223372036854775808 ≤ x) (h2 : x < 9223372036854775808) : z64 x = x := by
  have e : z64 x = (Int64.ofInt x).toInt := by rw [Int64.toInt_ofInt]; rfl
  rw [e, t64 ⟨h, h2⟩]
theorem up_at {M : xM} {a i v b j : Int} (h : b = a) (h2 : j = i) : up M a i v b j = v := by
  subst h; subst h2; exact up_same
theorem up_un {M : xM} {a i v b j : Int} (h : b ≠ a ∨ j ≠ i) : up M a i v b j = M b j := by
  unfold up
  by_cases e : b = a
  · rw [if_pos e, if_neg (by rcases h with h | h; exact absurd e h; exact h)]
  · rw [if_neg e]
theorem up_if {M : xM} {a i v b j : Int} : up M a i v b j = if b = a ∧ j = i then v else M b j := by
  unfold up
  by_cases e : b = a
  · by_cases e2 : j = i
    · rw [if_pos e, if_pos e2, if_pos ⟨e, e2⟩]
    · rw [if_pos e, if_neg e2, if_neg (fun q => e2 q.2)]
  · rw [if_neg e, if_neg (fun q => e q.1)]
theorem pow_dvd {k n : Nat} (h : k ≤ n) : ((2 : Int) ^ k) ∣ 2 ^ n := by
  refine ⟨2 ^ (n - k), ?_⟩
  rw [← Int.pow_add]
  congr 1
  omega
theorem bv64 (x : Int) : (Int64.ofInt x).toBitVec = BitVec.ofInt 64 x := rfl
theorem bv32 (x : Int) : (Int32.ofInt x).toBitVec = BitVec.ofInt 32 x := rfl
theorem p2c (k : Nat) : ((2 : Int) ^ k - 1) = (((2 ^ k - 1 : Nat)) : Int) := by
  have := Nat.two_pow_pos k
  rw [Int.natCast_sub this]
  simp
theorem p2i (k : Nat) : ((2 : Int) ^ k) = (((2 ^ k : Nat)) : Int) := by simp
theorem land_mask (x : Int) {k : Nat} (hk : k ≤ 62) : land x (2 ^ k - 1) = x % 2 ^ k := by
  unfold land
  have hlt : 2 ^ k ≤ 2 ^ 62 := Nat.pow_le_pow_right (by decide) hk
  have h62 : (2 : Nat) ^ 62 = 4611686018427387904 := by decide
  have e1 : ((Int64.ofInt x &&& Int64.ofInt (2 ^ k - 1)).toBitVec).toNat = (x % 18446744073709551616).toNat % 2 ^ k := by
    rw [Int64.toBitVec_and, BitVec.toNat_and, bv64, bv64, BitVec.toNat_ofInt, p2c, BitVec.ofInt_natCast, BitVec.toNat_ofNat, Nat.mod_eq_of_lt (by omega), Nat.and_two_pow_sub_one_eq_mod]
    rfl
  show ((Int64.ofInt x &&& Int64.ofInt (2 ^ k - 1)).toBitVec).toInt = _
  have hl := Nat.mod_lt (x % 18446744073709551616).toNat (Nat.two_pow_pos k)
  rw [BitVec.toInt_eq_toNat_of_lt (by rw [e1]; omega), e1]
  rw [Int.natCast_emod, Int.toNat_of_nonneg (Int.emod_nonneg _ (by decide)), ← p2i]
  exact Int.emod_emod_of_dvd x (pow_dvd (n := 64) (by omega))
theorem iand_mask (x : Int) {k : Nat} (hk : k ≤ 30) : iand x (2 ^ k - 1) = x % 2 ^ k := by
  unfold iand
  have hlt : 2 ^ k ≤ 2 ^ 30 := Nat.pow_le_pow_right (by decide) hk
  have h62 : (2 : Nat) ^ 30 = 1073741824 := by decide
  have e1 : ((Int32.ofInt x &&& Int32.ofInt (2 ^ k - 1)).toBitVec).toNat = (x % 4294967296).toNat % 2 ^ k := by
    rw [Int32.toBitVec_and, BitVec.toNat_and, bv32, bv32, BitVec.toNat_ofInt, p2c, BitVec.ofInt_natCast, BitVec.toNat_ofNat, Nat.mod_eq_of_lt (by omega), Nat.and_two_pow_sub_one_eq_mod]
    rfl
  show ((Int32.ofInt x &&& Int32.ofInt (2 ^ k - 1)).toBitVec).toInt = _
  have hl := Nat.mod_lt (x % 4294967296).toNat (Nat.two_pow_pos k)
  rw [BitVec.toInt_eq_toNat_of_lt (by rw [e1]; omega), e1]
  rw [Int.natCast_emod, Int.toNat_of_nonneg (Int.emod_nonneg _ (by decide)), ← p2i]
  exact Int.emod_emod_of_dvd x (pow_dvd (n := 32) (by omega))
theorem sh64 : ∀ s : Nat, s < 64 → (((Int32.ofInt (s : Int)).toInt64 &&& 63).toBitVec.smod 64).toNat = s := by decide +kernel
theorem sh32 : ∀ s : Nat, s < 32 → ((Int32.ofInt (s : Int) &&& 31).toBitVec.smod 32).toNat = s := by decide +kernel
theorem lshr_eq {x : Int} {s : Nat} (hx : i64 x) (hs : s < 64) : lshr x s = x / 2 ^ s := by
  unfold lshr
  show ((Int64.ofInt x >>> ((Int32.ofInt (s : Int)).toInt64 &&& 63)).toBitVec).toInt = _
  rw [Int64.toBitVec_shiftRight, BitVec.toInt_sshiftRight', sh64 s hs]
  show (Int64.ofInt x).toInt >>> s = _
  rw [t64 hx, Int.shiftRight_eq_div_pow]
  simp
theorem ishr_eq {x : Int} {s : Nat} (hx : i32 x) (hs : s < 32) : ishr x s = x / 2 ^ s := by
  unfold ishr
  show ((Int32.ofInt x >>> (Int32.ofInt (s : Int) &&& 31)).toBitVec).toInt = _
  rw [Int32.toBitVec_shiftRight, BitVec.toInt_sshiftRight', sh32 s hs]
  show (Int32.ofInt x).toInt >>> s = _
  rw [t32 hx, Int.shiftRight_eq_div_pow]
  simp
theorem lshl_eq {x : Int} {s : Nat} (hs : s < 64) : lshl x s = z64 (x * 2 ^ s) := by
  unfold lshl z64
  show ((Int64.ofInt x <<< ((Int32.ofInt (s : Int)).toInt64 &&& 63)).toBitVec).toInt = _
  rw [Int64.toBitVec_shiftLeft, BitVec.shiftLeft_eq', sh64 s hs, BitVec.toInt_shiftLeft, bv64, BitVec.toNat_ofInt, Nat.shiftLeft_eq, Int.natCast_mul, Int.toNat_of_nonneg (Int.emod_nonneg _ (by decide)), p2i]
  show ((x % 18446744073709551616) * ((2 ^ s : Nat) : Int)).bmod 18446744073709551616 = _
  have h : (18446744073709551616 : Nat) = 18446744073709551616 := rfl
  rw [Int.bmod_eq_bmod_iff_bmod_sub_eq_zero]
  have e : x % 18446744073709551616 * ((2 ^ s : Nat) : Int) - x * ((2 ^ s : Nat) : Int) = 18446744073709551616 * (-(x / 18446744073709551616) * ((2 ^ s : Nat) : Int)) := by
    have h2 := Int.emod_add_mul_ediv x 18446744073709551616
    have h3 : x % 18446744073709551616 = x - 18446744073709551616 * (x / 18446744073709551616) := by omega
    rw [h3, Int.sub_mul]
    rw [Int.neg_mul, Int.mul_neg, Int.mul_assoc]
    omega
  rw [e]
  exact Int.bmod_eq_zero_of_dvd ⟨_, rfl⟩
theorem ldiv_of {x y : Int} (hx : 0 ≤ x) (hx2 : x < 9223372036854775808) (hy : 0 < y) (hy2 : y < 9223372036854775808) : Int64.ofInt x / Int64.ofInt y = Int64.ofInt (x / y) := by
  have h1 : 0 ≤ x / y := Int.ediv_nonneg hx (Int.le_of_lt hy)
  have h2 : x / y ≤ x := Int.ediv_le_self _ hx
  apply Int64.toInt_inj.mp
  rw [Int64.toInt_div, t64 ⟨by omega, hx2⟩, t64 ⟨by omega, hy2⟩, t64 ⟨by omega, by omega⟩, Int.tdiv_eq_ediv_of_nonneg hx]
  show z64 (x / y) = x / y
  exact z64_id (by omega) (by omega)
theorem ldiv_eq {x y : Int} (hx : 0 ≤ x) (hx2 : x < 9223372036854775808) (hy : 0 < y) (hy2 : y < 9223372036854775808) : ldiv x y = x / y := by
  have h1 : 0 ≤ x / y := Int.ediv_nonneg hx (Int.le_of_lt hy)
  have h2 : x / y ≤ x := Int.ediv_le_self _ hx
  unfold ldiv
  rw [ldiv_of hx hx2 hy hy2, t64 ⟨by omega, by omega⟩]
theorem lrem_eq {x y : Int} (hx : 0 ≤ x) (hx2 : x < 9223372036854775808) (hy : 0 < y) (hy2 : y < 9223372036854775808) : lrem x y = x % y := by
  unfold lrem
  have h1 := Int.emod_nonneg x (Int.ne_of_gt hy)
  have h2 := Int.emod_lt_of_pos x hy
  rw [ldiv_of hx hx2 hy hy2, ← Int64.ofInt_mul, ← Int64.ofInt_sub]
  have e : x - x / y * y = x % y := by
    have := Int.emod_add_mul_ediv x y
    rw [Int.mul_comm] at this
    omega
  rw [e, t64 ⟨by omega, by omega⟩]
theorem idiv_of {x y : Int} (hx : 0 ≤ x) (hx2 : x < 2147483648) (hy : 0 < y) (hy2 : y < 2147483648) : Int32.ofInt x / Int32.ofInt y = Int32.ofInt (x / y) := by
  have h1 : 0 ≤ x / y := Int.ediv_nonneg hx (Int.le_of_lt hy)
  have h2 : x / y ≤ x := Int.ediv_le_self _ hx
  apply Int32.toInt_inj.mp
  rw [Int32.toInt_div, t32 ⟨by omega, hx2⟩, t32 ⟨by omega, hy2⟩, t32 ⟨by omega, by omega⟩, Int.tdiv_eq_ediv_of_nonneg hx]
  show z32 (x / y) = x / y
  exact z32_id (by omega) (by omega)
theorem idiv_eq {x y : Int} (hx : 0 ≤ x) (hx2 : x < 2147483648) (hy : 0 < y) (hy2 : y < 2147483648) : idiv x y = x / y := by
  have h1 : 0 ≤ x / y := Int.ediv_nonneg hx (Int.le_of_lt hy)
  have h2 : x / y ≤ x := Int.ediv_le_self _ hx
  unfold idiv
  rw [idiv_of hx hx2 hy hy2, t32 ⟨by omega, by omega⟩]
theorem irem_eq {x y : Int} (hx : 0 ≤ x) (hx2 : x < 2147483648) (hy : 0 < y) (hy2 : y < 2147483648) : irem x y = x % y := by
  unfold irem
  have h1 := Int.emod_nonneg x (Int.ne_of_gt hy)
  have h2 := Int.emod_lt_of_pos x hy
  rw [idiv_of hx hx2 hy hy2, ← Int32.ofInt_mul, ← Int32.ofInt_sub]
  have e : x - x / y * y = x % y := by
    have := Int.emod_add_mul_ediv x y
    rw [Int.mul_comm] at this
    omega
  rw [e, t32 ⟨by omega, by omega⟩]
/-- how many addresses lie in a beginning of a length -/
def wd (n : Int) : Int := 2 ^ (32 - n).toNat
def uns (x : Int) : Int := x % 4294967296
theorem uns_eq (x : Int) : land x 4294967295 = uns x := land_mask x (k := 32) (by decide)
theorem uns_in (x : Int) : 0 ≤ uns x ∧ uns x < 4294967296 := by unfold uns; omega
theorem uns_id {x : Int} (h : 0 ≤ x) (h2 : x < 4294967296) : uns x = x := by unfold uns; omega
theorem uns_z {x : Int} : uns (z32 x) = uns x := by
  unfold uns z32
  exact Int.bmod_emod ..
theorem wd_all : ∀ k : Nat, k < 33 → lshr 4294967296 (k : Int) = 2 ^ (32 - (k : Int)).toNat ∧ lshl 1 (z32 (32 - (k : Int))) = 2 ^ (32 - (k : Int)).toNat ∧ (0 : Int) < 2 ^ (32 - (k : Int)).toNat ∧ (2 : Int) ^ (32 - (k : Int)).toNat ≤ 4294967296 := by decide +kernel
theorem wd_lshr {n : Int} (h : 0 ≤ n) (h2 : n ≤ 32) : lshr 4294967296 n = wd n := by
  obtain ⟨k, rfl⟩ := nat_of h
  exact (wd_all k (by omega)).1
theorem wd_lshl {n : Int} (h : 0 ≤ n) (h2 : n ≤ 32) : lshl 1 (z32 (32 - n)) = wd n := by
  obtain ⟨k, rfl⟩ := nat_of h
  exact (wd_all k (by omega)).2.1
theorem wd_pos (n : Int) : 0 < wd n := by
  unfold wd
  exact Int.pow_pos (by decide)
theorem wd_le {n : Int} (h : 0 ≤ n) : wd n ≤ 4294967296 := by
  unfold wd
  have h1 : (32 - n).toNat ≤ 32 := by omega
  have h2 : 2 ^ (32 - n).toNat ≤ 2 ^ 32 := Nat.pow_le_pow_right (by decide) h1
  rw [p2i]
  have h3 : (2 : Nat) ^ 32 = 4294967296 := by decide
  omega
theorem wd_half {n : Int} (h2 : n < 32) : wd n = 2 * wd (n + 1) := by
  unfold wd
  rw [show (32 - n).toNat = (32 - (n + 1)).toNat + 1 by omega, Int.pow_succ, Int.mul_comm]
theorem wd_0 : wd 0 = 4294967296 := rfl
theorem wd_32 : wd 32 = 1 := rfl
theorem wd_dvd {m n : Int} (h : m ≤ n) : wd n ∣ wd m := by
  unfold wd
  exact pow_dvd (by omega)
theorem wd_mono {m n : Int} (h : m ≤ n) : wd n ≤ wd m := Int.le_of_dvd (wd_pos m) (wd_dvd h)
theorem wd_land {x n : Int} (h : 0 ≤ n) (h2 : n ≤ 32) : land x (z64 (wd n - 1)) = x % wd n := by
  have h3 := wd_pos n
  have h4 := wd_le h
  rw [z64_id (by omega) (by omega)]
  exact land_mask x (k := (32 - n).toNat) (by omega)
theorem wd_lrem {x n : Int} (hx : 0 ≤ x) (hx2 : x < 9223372036854775808) (h : 0 ≤ n) : lrem x (wd n) = x % wd n := by
  have h3 := wd_pos n
  have h4 := wd_le h
  exact lrem_eq hx hx2 h3 (by omega)

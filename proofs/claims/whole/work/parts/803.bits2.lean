/-! BITS are counted by Long.bitCount. -/
theorem e0 {b y k z : Nat} (hb : b < 256) (hk : k < 256) : (b + 256 * y) &&& (k + 256 * z) = (b &&& k) + 256 * (y &&& z) := by
  rw [s0 hb (k := k) (by omega), show (k + 256 * z) / 256 = z by omega]
theorem e55 {b y z : Nat} (hb : b < 256) : ((b + 256 * y) / 2) &&& (0x55 + 256 * z) = ((b / 2) &&& 0x55) + 256 * ((y / 2) &&& z) := by
  rw [s55 hb (by omega), show (0x55 + 256 * z) / 256 = z by omega]
theorem e33 {b y z : Nat} (hb : b < 256) : ((b + 256 * y) / 4) &&& (0x33 + 256 * z) = ((b / 4) &&& 0x33) + 256 * ((y / 4) &&& z) := by
  rw [s33 hb (by omega), show (0x33 + 256 * z) / 256 = z by omega]
section Bits8
variable {a0 a1 a2 a3 a4 a5 a6 a7 : Nat}
theorem u1 (h0 : a0 < 256) (h1 : a1 < 256) (h2 : a2 < 256) (h3 : a3 < 256) (h4 : a4 < 256) (h5 : a5 < 256) (h6 : a6 < 256) (h7 : a7 < 256) : (by8 a0 a1 a2 a3 a4 a5 a6 a7 / 2 &&& 6148914691236517205) ≤ by8 a0 a1 a2 a3 a4 a5 a6 a7 ∧ by8 a0 a1 a2 a3 a4 a5 a6 a7 - (by8 a0 a1 a2 a3 a4 a5 a6 a7 / 2 &&& 6148914691236517205) = by8 (p1 a0) (p1 a1) (p1 a2) (p1 a3) (p1 a4) (p1 a5) (p1 a6) (p1 a7) := by
  have em : 6148914691236517205 = by8 0x55 0x55 0x55 0x55 0x55 0x55 0x55 0x55 := by decide
  have e : (by8 a0 a1 a2 a3 a4 a5 a6 a7 / 2 &&& 6148914691236517205) = by8 (a0 / 2 &&& 0x55) (a1 / 2 &&& 0x55) (a2 / 2 &&& 0x55) (a3 / 2 &&& 0x55) (a4 / 2 &&& 0x55) (a5 / 2 &&& 0x55) (a6 / 2 &&& 0x55) (a7 / 2 &&& 0x55) := by
    rw [em]
    unfold by8
    rw [e55 h0, e55 h1, e55 h2, e55 h3, e55 h4, e55 h5, e55 h6]
  rw [e]
  have g0 := (d55 a0 h0 0 (by decide)).2
  have g1 := (d55 a1 h1 0 (by decide)).2
  have g2 := (d55 a2 h2 0 (by decide)).2
  have g3 := (d55 a3 h3 0 (by decide)).2
  have g4 := (d55 a4 h4 0 (by decide)).2
  have g5 := (d55 a5 h5 0 (by decide)).2
  have g6 := (d55 a6 h6 0 (by decide)).2
  have g7 := (d55 a7 h7 0 (by decide)).2
  unfold p1 by8
  constructor <;> omega
theorem u2 (h0 : a0 < 256) (h1 : a1 < 256) (h2 : a2 < 256) (h3 : a3 < 256) (h4 : a4 < 256) (h5 : a5 < 256) (h6 : a6 < 256) (h7 : a7 < 256) : (by8 a0 a1 a2 a3 a4 a5 a6 a7 &&& 3689348814741910323) + (by8 a0 a1 a2 a3 a4 a5 a6 a7 / 4 &&& 3689348814741910323) = by8 (p2 a0) (p2 a1) (p2 a2) (p2 a3) (p2 a4) (p2 a5) (p2 a6) (p2 a7) := by
  have em : 3689348814741910323 = by8 0x33 0x33 0x33 0x33 0x33 0x33 0x33 0x33 := by decide
  rw [em]
  unfold by8
  rw [e0 h0 (by decide), e0 h1 (by decide), e0 h2 (by decide), e0 h3 (by decide), e0 h4 (by decide), e0 h5 (by decide), e0 h6 (by decide)]
  rw [e33 h0, e33 h1, e33 h2, e33 h3, e33 h4, e33 h5, e33 h6]
  unfold p2
  omega
theorem q15 {a b : Nat} (h : a < 16) : (a + 16 * b) &&& 15 = a := by
  rw [show (15 : Nat) = 2 ^ 4 - 1 from rfl, Nat.and_two_pow_sub_one_eq_mod]
  omega
theorem u3 (h0 : a0 % 16 ≤ 4 ∧ a0 / 16 ≤ 4) (h1 : a1 % 16 ≤ 4 ∧ a1 / 16 ≤ 4) (h2 : a2 % 16 ≤ 4 ∧ a2 / 16 ≤ 4) (h3 : a3 % 16 ≤ 4 ∧ a3 / 16 ≤ 4) (h4 : a4 % 16 ≤ 4 ∧ a4 / 16 ≤ 4) (h5 : a5 % 16 ≤ 4 ∧ a5 / 16 ≤ 4) (h6 : a6 % 16 ≤ 4 ∧ a6 / 16 ≤ 4) (h7 : a7 % 16 ≤ 4 ∧ a7 / 16 ≤ 4) : (by8 a0 a1 a2 a3 a4 a5 a6 a7 + by8 a0 a1 a2 a3 a4 a5 a6 a7 / 16 &&& 1085102592571150095) = by8 (a0 % 16 + a0 / 16) (a1 % 16 + a1 / 16) (a2 % 16 + a2 / 16) (a3 % 16 + a3 / 16) (a4 % 16 + a4 / 16) (a5 % 16 + a5 / 16) (a6 % 16 + a6 / 16) (a7 % 16 + a7 / 16) := by
  have em : 1085102592571150095 = by8 15 15 15 15 15 15 15 15 := by decide
  have e : by8 a0 a1 a2 a3 a4 a5 a6 a7 + by8 a0 a1 a2 a3 a4 a5 a6 a7 / 16 = by8 ((a0 % 16 + a0 / 16) + 16 * (a0 / 16 + a1 % 16)) ((a1 % 16 + a1 / 16) + 16 * (a1 / 16 + a2 % 16)) ((a2 % 16 + a2 / 16) + 16 * (a2 / 16 + a3 % 16)) ((a3 % 16 + a3 / 16) + 16 * (a3 / 16 + a4 % 16)) ((a4 % 16 + a4 / 16) + 16 * (a4 / 16 + a5 % 16)) ((a5 % 16 + a5 / 16) + 16 * (a5 / 16 + a6 % 16)) ((a6 % 16 + a6 / 16) + 16 * (a6 / 16 + a7 % 16)) ((a7 % 16 + a7 / 16) + 16 * (a7 / 16)) := by
    unfold by8
    omega
  rw [e, em]
  unfold by8
  rw [e0 (by omega) (by decide), e0 (by omega) (by decide), e0 (by omega) (by decide), e0 (by omega) (by decide), e0 (by omega) (by decide), e0 (by omega) (by decide), e0 (by omega) (by decide), q15 (by omega), q15 (by omega), q15 (by omega), q15 (by omega), q15 (by omega), q15 (by omega), q15 (by omega), q15 (by omega)]
theorem u4 {x y : Nat} (h0 : a0 ≤ 8) (h1 : a1 ≤ 8) (h2 : a2 ≤ 8) (h3 : a3 ≤ 8) (h4 : a4 ≤ 8) (h5 : a5 ≤ 8) (h6 : a6 ≤ 8) (h7 : a7 ≤ 8) (hx : x = by8 a0 a1 a2 a3 a4 a5 a6 a7 + by8 a0 a1 a2 a3 a4 a5 a6 a7 / 256) (hy : y = x + x / 65536) : y + y / 4294967296 < 9223372036854775808 ∧ (y + y / 4294967296) % 128 = a0 + a1 + a2 + a3 + a4 + a5 + a6 + a7 ∧ x < 9223372036854775808 ∧ y < 9223372036854775808 := by
  unfold by8 at hx
  have ex : x = (a0 + a1) + 256 * (a1 + a2) + 65536 * (a2 + a3) + 16777216 * (a3 + a4) + 4294967296 * (a4 + a5) + 1099511627776 * (a5 + a6) + 281474976710656 * (a6 + a7) + 72057594037927936 * a7 := by omega
  clear hx
  have ey : y = (a0 + a1 + a2 + a3) + 256 * (a1 + a2 + a3 + a4) + 65536 * (a2 + a3 + a4 + a5) + 16777216 * (a3 + a4 + a5 + a6) + 4294967296 * (a4 + a5 + a6 + a7) + 1099511627776 * (a5 + a6 + a7) + 281474976710656 * (a6 + a7) + 72057594037927936 * a7 := by omega
  clear hy
  have ez : y / 4294967296 = (a4 + a5 + a6 + a7) + 256 * (a5 + a6 + a7) + 65536 * (a6 + a7) + 16777216 * a7 := by clear ex; omega
  refine ⟨by clear ex; omega, by rw [ez]; clear ez ex; omega, by clear ez ey; omega, by clear ex ez; omega⟩
end Bits8

/-! BITS: the contract of Long.bitCount; rows of bits. -/
theorem by8_ex (u : Nat) (h : u < 18446744073709551616) : ∃ a0 a1 a2 a3 a4 a5 a6 a7 : Nat, (a0 < 256 ∧ a1 < 256 ∧ a2 < 256 ∧ a3 < 256 ∧ a4 < 256 ∧ a5 < 256 ∧ a6 < 256 ∧ a7 < 256) ∧ u = by8 a0 a1 a2 a3 a4 a5 a6 a7 := by
  refine ⟨u % 256, u / 256 % 256, u / 256 / 256 % 256, u / 256 / 256 / 256 % 256, u / 256 / 256 / 256 / 256 % 256, u / 256 / 256 / 256 / 256 / 256 % 256, u / 256 / 256 / 256 / 256 / 256 / 256 % 256, u / 256 / 256 / 256 / 256 / 256 / 256 / 256, by omega, ?_⟩
  unfold by8
  omega
theorem pcn_m {y c : Nat} : ∀ n m : Nat, n ≤ m → pcn (y + 2 ^ m * c) n = pcn y n
  | 0, _, _ => rfl
  | n + 1, m, h => by
    have ih := pcn_m (y := y) (c := c) n m (by omega)
    unfold pcn
    rw [ih]
    have e : (y + 2 ^ m * c) / 2 ^ n % 2 = y / 2 ^ n % 2 := by
      rw [show 2 ^ m * c = 2 ^ n * (2 * (2 ^ (m - n - 1) * c)) by
        rw [← Nat.mul_assoc, ← Nat.mul_assoc, ← Nat.pow_succ, ← Nat.pow_add]
        congr 2
        omega]
      rw [Nat.add_mul_div_left _ _ (Nat.two_pow_pos n)]
      omega
    rw [e]
theorem pcn_8 (b y n : Nat) (hb : b < 256) : pcn (b + 256 * y) (8 + n) = pc8 b + pcn y n := by
  induction n with
  | zero =>
    have e : pcn (b + 256 * y) 8 = pcn b 8 := pcn_m (y := b) (c := y) 8 8 (Nat.le_refl _)
    show pcn (b + 256 * y) 8 = pc8 b + 0
    rw [e]
    show 0 + b / 1 % 2 + b / 2 % 2 + b / 4 % 2 + b / 8 % 2 + b / 16 % 2 + b / 32 % 2 + b / 64 % 2 + b / 128 % 2 = _
    unfold pc8
    omega
  | succ n ih =>
    show pcn (b + 256 * y) (8 + n) + (b + 256 * y) / 2 ^ (8 + n) % 2 = _
    rw [ih]
    show pc8 b + pcn y n + (b + 256 * y) / 2 ^ (8 + n) % 2 = pc8 b + (pcn y n + y / 2 ^ n % 2)
    rw [Nat.pow_add, ← Nat.div_div_eq_div_mul, show (b + 256 * y) / 2 ^ 8 = y by omega]
    omega
theorem pcn_by8 {a0 a1 a2 a3 a4 a5 a6 a7 : Nat} (h0 : a0 < 256) (h1 : a1 < 256) (h2 : a2 < 256) (h3 : a3 < 256) (h4 : a4 < 256) (h5 : a5 < 256) (h6 : a6 < 256) (h7 : a7 < 256) : pcn (by8 a0 a1 a2 a3 a4 a5 a6 a7) 64 = pc8 a0 + pc8 a1 + pc8 a2 + pc8 a3 + pc8 a4 + pc8 a5 + pc8 a6 + pc8 a7 := by
  unfold by8
  rw [show (64 : Nat) = 8 + 56 from rfl, pcn_8 _ _ _ h0, show (56 : Nat) = 8 + 48 from rfl, pcn_8 _ _ _ h1, show (48 : Nat) = 8 + 40 from rfl, pcn_8 _ _ _ h2, show (40 : Nat) = 8 + 32 from rfl, pcn_8 _ _ _ h3, show (32 : Nat) = 8 + 24 from rfl, pcn_8 _ _ _ h4, show (24 : Nat) = 8 + 16 from rfl, pcn_8 _ _ _ h5, show (16 : Nat) = 8 + 8 from rfl, pcn_8 _ _ _ h6]
  have e : pcn a7 8 = pc8 a7 := by
    have := pcn_8 a7 0 0 h7
    rw [show a7 + 256 * 0 = a7 by omega] at this
    exact this
  rw [e]
  omega
theorem ub_lu {x : Int} {n : Nat} (s : Nat) (hs : s < 64) (e : ub x = n) : ub (lushr x (s : Int)) = n / 2 ^ s := by
  rw [ub_lushr hs, e, Nat.shiftRight_eq_div_pow]
theorem ub_ad {a b : Int} {n m : Nat} (ha : ub a = n) (hb : ub b = m) (h : n + m < 18446744073709551616) : ub (z64 (a + b)) = n + m := by
  rw [ub_add (by omega), ha, hb]
theorem ub_an {a b : Int} {n m : Nat} (ha : ub a = n) (hb : ub b = m) : ub (land a b) = n &&& m := by
  rw [ub_land, ha, hb]
theorem iand_127 {x : Int} {n : Nat} (h : ub x = n) : iand (z32 x) 127 = ((n % 128 : Nat) : Int) := by
  have e : iand (z32 x) 127 = z32 x % 2 ^ 7 := iand_mask (z32 x) (k := 7) (by decide)
  rw [e]
  have e2 : z32 x % 128 = x % 128 := by
    have h1 : z32 x % 4294967296 = x % 4294967296 := Int.bmod_emod ..
    omega
  show z32 x % 128 = _
  rw [e2]
  unfold ub at h
  omega
theorem pc8_b : ∀ b : Nat, b < 256 → pc8 b ≤ 8 := by decide +kernel
set_option maxRecDepth 20000 in
theorem qJ_bitCount {d : Nat} {M : xM} {Q : xQ} {a : Int} (h : Q (xI ((pcn (ub a) 64 : Nat) : Int)) M) : Ru d kJ_bitCount 0 [xL a, xU] [] M Q := by
  refine vJ_bitCount_0 ?_
  obtain ⟨a0, a1, a2, a3, a4, a5, a6, a7, ⟨h0, h1, h2, h3, h4, h5, h6, h7⟩, hu⟩ := by8_ex (ub a) (ub_lt a)
  have U1 := u1 h0 h1 h2 h3 h4 h5 h6 h7
  have D0 := d8 a0 h0
  have D1 := d8 a1 h1
  have D2 := d8 a2 h2
  have D3 := d8 a3 h3
  have D4 := d8 a4 h4
  have D5 := d8 a5 h5
  have D6 := d8 a6 h6
  have D7 := d8 a7 h7
  have U2 := u2 D0.1 D1.1 D2.1 D3.1 D4.1 D5.1 D6.1 D7.1
  have U3 := u3 ⟨D0.2.1, D0.2.2.1⟩ ⟨D1.2.1, D1.2.2.1⟩ ⟨D2.2.1, D2.2.2.1⟩ ⟨D3.2.1, D3.2.2.1⟩ ⟨D4.2.1, D4.2.2.1⟩ ⟨D5.2.1, D5.2.2.1⟩ ⟨D6.2.1, D6.2.2.1⟩ ⟨D7.2.1, D7.2.2.1⟩
  rw [D0.2.2.2, D1.2.2.2, D2.2.2.2, D3.2.2.2, D4.2.2.2, D5.2.2.2, D6.2.2.2, D7.2.2.2] at U3
  have U4 := u4 (pc8_b a0 h0) (pc8_b a1 h1) (pc8_b a2 h2) (pc8_b a3 h3) (pc8_b a4 h4) (pc8_b a5 h5) (pc8_b a6 h6) (pc8_b a7 h7) rfl rfl
  have P := pcn_by8 h0 h1 h2 h3 h4 h5 h6 h7
  rw [hu, P] at h
  rw [← U4.2.1] at h
  -- x1
  have E1 : ub (z64 (a - land (lushr a 1) 6148914691236517205)) = by8 (p1 a0) (p1 a1) (p1 a2) (p1 a3) (p1 a4) (p1 a5) (p1 a6) (p1 a7) := by
    have e1 : ub (land (lushr a 1) 6148914691236517205) = by8 a0 a1 a2 a3 a4 a5 a6 a7 / 2 &&& 6148914691236517205 := by
      have e9 : ub (lushr a 1) = _ := ub_lu 1 (by decide) hu
      rw [ub_land, e9]
      rfl
    rw [ub_sub (by rw [e1, hu]; exact U1.1), e1, hu, U1.2]
  generalize z64 (a - land (lushr a 1) 6148914691236517205) = x1 at E1 ⊢
  have E2 : ub (z64 (land x1 3689348814741910323 + land (lushr x1 2) 3689348814741910323)) = by8 (p2 (p1 a0)) (p2 (p1 a1)) (p2 (p1 a2)) (p2 (p1 a3)) (p2 (p1 a4)) (p2 (p1 a5)) (p2 (p1 a6)) (p2 (p1 a7)) := by
    have e1 : ub (land x1 3689348814741910323) = by8 (p1 a0) (p1 a1) (p1 a2) (p1 a3) (p1 a4) (p1 a5) (p1 a6) (p1 a7) &&& 3689348814741910323 := by
      rw [ub_land, E1]
      rfl
    have e2 : ub (land (lushr x1 2) 3689348814741910323) = by8 (p1 a0) (p1 a1) (p1 a2) (p1 a3) (p1 a4) (p1 a5) (p1 a6) (p1 a7) / 4 &&& 3689348814741910323 := by
      have e9 : ub (lushr x1 2) = _ := ub_lu 2 (by decide) E1
      rw [ub_land, e9]
      rfl
    have e3 := Nat.and_le_right (n := by8 (p1 a0) (p1 a1) (p1 a2) (p1 a3) (p1 a4) (p1 a5) (p1 a6) (p1 a7)) (m := 3689348814741910323)
    have e4 := Nat.and_le_right (n := by8 (p1 a0) (p1 a1) (p1 a2) (p1 a3) (p1 a4) (p1 a5) (p1 a6) (p1 a7) / 4) (m := 3689348814741910323)
    rw [ub_ad e1 e2 (by omega), U2]
  generalize z64 (land x1 3689348814741910323 + land (lushr x1 2) 3689348814741910323) = x2 at E2 ⊢
  have b2 : by8 (p2 (p1 a0)) (p2 (p1 a1)) (p2 (p1 a2)) (p2 (p1 a3)) (p2 (p1 a4)) (p2 (p1 a5)) (p2 (p1 a6)) (p2 (p1 a7)) ≤ 4919131752989213764 := by
    have := D0.2; have := D1.2; have := D2.2; have := D3.2; have := D4.2; have := D5.2; have := D6.2; have := D7.2
    unfold by8
    omega
  have E3 : ub (land (z64 (x2 + lushr x2 4)) 1085102592571150095) = by8 (pc8 a0) (pc8 a1) (pc8 a2) (pc8 a3) (pc8 a4) (pc8 a5) (pc8 a6) (pc8 a7) := by
    have e9 : ub (lushr x2 4) = _ := ub_lu 4 (by decide) E2
    rw [ub_land, ub_ad E2 e9 (by omega), ← U3]
    rfl
  generalize land (z64 (x2 + lushr x2 4)) 1085102592571150095 = x3 at E3 ⊢
  have E4 := ub_ad E3 (ub_lu 8 (by decide) E3) (by have := U4.2.2.1; show by8 (pc8 a0) (pc8 a1) (pc8 a2) (pc8 a3) (pc8 a4) (pc8 a5) (pc8 a6) (pc8 a7) + by8 (pc8 a0) (pc8 a1) (pc8 a2) (pc8 a3) (pc8 a4) (pc8 a5) (pc8 a6) (pc8 a7) / 256 < _; omega)
  have E5 := ub_ad E4 (ub_lu 16 (by decide) E4) (by have := U4.2.2.2; exact Nat.lt_trans this (by decide))
  have E6 := ub_ad E5 (ub_lu 32 (by decide) E5) (by have := U4.1; exact Nat.lt_trans this (by decide))
  have E7 := iand_127 E6
  have E8 : iand (z32 (z64 (z64 (z64 (x3 + lushr x3 8) + lushr (z64 (x3 + lushr x3 8)) 16) + lushr (z64 (z64 (x3 + lushr x3 8) + lushr (z64 (x3 + lushr x3 8)) 16)) 32))) 127 = _ := E7
  rw [E8]
  exact h

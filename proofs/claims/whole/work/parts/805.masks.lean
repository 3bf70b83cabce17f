/-! ROWS OF BITS as longs. -/
def tb (x : Int) (j : Nat) : Bool := (ub x).testBit j
theorem land_in (x y : Int) : -9223372036854775808 ≤ land x y ∧ land x y < 9223372036854775808 := by
  have h := (Int64.ofInt x &&& Int64.ofInt y).toInt_lt
  have h2 := (Int64.ofInt x &&& Int64.ofInt y).le_toInt
  unfold land
  omega
theorem lor_in (x y : Int) : -9223372036854775808 ≤ lor x y ∧ lor x y < 9223372036854775808 := by
  have h := (Int64.ofInt x ||| Int64.ofInt y).toInt_lt
  have h2 := (Int64.ofInt x ||| Int64.ofInt y).le_toInt
  unfold lor
  omega
theorem z64_in (x : Int) : -9223372036854775808 ≤ z64 x ∧ z64 x < 9223372036854775808 := by
  have e : z64 x = (Int64.ofInt x).toInt := by rw [Int64.toInt_ofInt]; rfl
  have h := (Int64.ofInt x).toInt_lt
  have h2 := (Int64.ofInt x).le_toInt
  rw [e]
  omega
theorem p64 {s : Nat} (h : s < 64) : 2 ^ s < 18446744073709551616 ∧ 0 < 2 ^ s := by
  have h1 : 2 ^ s ≤ 2 ^ 63 := Nat.pow_le_pow_right (by decide) (by omega)
  have h2 : (2 : Nat) ^ 63 = 9223372036854775808 := by decide
  have h3 := Nat.two_pow_pos s
  omega
theorem ub_1s {s : Nat} (h : s < 64) : ub (lshl 1 s) = 2 ^ s := by
  rw [lshl_eq h, ub_z64, Int.one_mul, p2i, ub_nat (p64 h).1]
theorem ub_0 {x : Int} (h : -9223372036854775808 ≤ x) (h2 : x < 9223372036854775808) : x = 0 ↔ ub x = 0 := by
  constructor
  · intro e; subst e; rfl
  · intro e
    exact ub_inj h h2 (by decide) (by decide) e
theorem land_bit {x : Int} {s : Nat} (h : s < 64) : land x (lshl 1 s) = 0 ↔ tb x s = false := by
  rw [ub_0 (land_in _ _).1 (land_in _ _).2, ub_land, ub_1s h]
  unfold tb
  constructor
  · intro e
    have h2 : (ub x &&& 2 ^ s).testBit s = false := by rw [e, Nat.zero_testBit]
    rw [Nat.testBit_and, Nat.testBit_two_pow, decide_eq_true rfl, Bool.and_true] at h2
    exact h2
  · intro e
    apply Nat.eq_of_testBit_eq
    intro j
    rw [Nat.testBit_and, Nat.testBit_two_pow, Nat.zero_testBit]
    by_cases ej : s = j
    · rw [← ej, e]; rfl
    · rw [decide_eq_false ej, Bool.and_false]
theorem shr_bit {x : Int} {s : Nat} (hx : i64 x) (h : s < 64) : land (lshr x s) 1 = 0 ↔ tb x s = false := by
  have e1 : land (lshr x s) 1 = lshr x s % 2 ^ 1 := land_mask (lshr x s) (k := 1) (by decide)
  rw [e1, lshr_eq hx h]
  have e2 : tb x s = decide (ub x / 2 ^ s % 2 = 1) := by
    unfold tb
    rw [Nat.testBit_eq_decide_div_mod_eq]
  rw [e2, decide_eq_false_iff_not]
  have key : x / 2 ^ s % 2 = ((ub x / 2 ^ s % 2 : Nat) : Int) := by
    rw [Int.natCast_emod, Int.natCast_ediv, ← p2i]
    rcases (show 0 ≤ x ∨ x < 0 by omega) with hx0 | hx0
    · rw [show ((ub x : Nat) : Int) = x from ub_id hx0 (by have := hx.2; omega)]
      rfl
    · have e3 : ((ub x : Nat) : Int) = x + 18446744073709551616 := by
        have := hx.1
        unfold ub; omega
      rw [e3]
      have e4 : (18446744073709551616 : Int) = 2 ^ s * (2 * 2 ^ (63 - s)) := by
        rw [← Int.mul_assoc, Int.mul_comm (2 ^ s) 2, Int.mul_assoc, ← Int.pow_add, show s + (63 - s) = 63 by omega]
        rfl
      rw [e4, Int.add_mul_ediv_left _ _ (Int.ne_of_gt (Int.pow_pos (by decide)))]
      show _ = (x / 2 ^ s + 2 * 2 ^ (63 - s)) % 2
      omega
  show x / 2 ^ s % 2 = 0 ↔ _
  rw [key]
  omega
/-- a row of bits -/
def bm (f : Nat → Bool) : Nat → Nat
  | 0 => 0
  | n + 1 => bm f n + if f n = true then 2 ^ n else 0
def ct (f : Nat → Bool) : Nat → Nat
  | 0 => 0
  | n + 1 => ct f n + if f n = true then 1 else 0
theorem bm_lt (f : Nat → Bool) : ∀ n : Nat, bm f n < 2 ^ n
  | 0 => Nat.one_pos
  | n + 1 => by
    have := bm_lt f n
    unfold bm
    rw [Nat.pow_succ]
    split <;> omega
theorem bm_or (f : Nat → Bool) (n : Nat) : bm f n ||| 2 ^ n = bm f n + 2 ^ n := by
  have h := Nat.two_pow_add_eq_or_of_lt (bm_lt f n) 1
  rw [Nat.mul_one] at h
  rw [Nat.or_comm, ← h, Nat.add_comm]
theorem bm_mod (f : Nat → Bool) (s : Nat) : ∀ n : Nat, s ≤ n → bm f n % 2 ^ s = bm f s
  | 0, h => by
    have : s = 0 := by omega
    subst this
    rfl
  | n + 1, h => by
    by_cases e : s = n + 1
    · subst e
      exact Nat.mod_eq_of_lt (bm_lt f (n + 1))
    · have ih := bm_mod f s n (by omega)
      show (bm f n + if f n = true then 2 ^ n else 0) % 2 ^ s = bm f s
      split
      · have : 2 ^ n = 2 ^ s * 2 ^ (n - s) := by rw [← Nat.pow_add]; congr 1; omega
        rw [this, Nat.add_mul_mod_self_left]
        exact ih
      · exact ih
theorem bm_bit (f : Nat → Bool) (n j : Nat) : (bm f n).testBit j = (decide (j < n) && f j) := by
  induction n with
  | zero => simp [bm]
  | succ n ih =>
    have h := bm_lt f n
    unfold bm
    by_cases e : f n = true
    · rw [if_pos e]
      have h2 := Nat.testBit_two_pow_mul_add 1 h j
      rw [Nat.mul_one, Nat.add_comm] at h2
      rw [h2]
      by_cases ej : j < n
      · rw [if_pos ej, ih, decide_eq_true ej, decide_eq_true (by omega)]
      · rw [if_neg ej]
        by_cases ejn : j = n
        · subst ejn
          simp [e]
        · rw [decide_eq_false (by omega)]
          have : Nat.testBit 1 (j - n) = false := by
            show Nat.testBit (2 ^ 0) (j - n) = false
            rw [Nat.testBit_two_pow]
            exact decide_eq_false (by omega)
          rw [this]; rfl
    · rw [if_neg e, Nat.add_zero, ih]
      by_cases ejn : j = n
      · subst ejn
        rw [Bool.eq_false_iff.mpr e]; simp
      · have : decide (j < n) = decide (j < n + 1) := by
          by_cases h9 : j < n
          · rw [decide_eq_true h9, decide_eq_true (by omega)]
          · rw [decide_eq_false h9, decide_eq_false (by omega)]
        rw [this]
theorem pcn_bm (f : Nat → Bool) : ∀ n : Nat, pcn (bm f n) n = ct f n
  | 0 => rfl
  | n + 1 => by
    have ih := pcn_bm f n
    have h := bm_lt f n
    show pcn (bm f (n + 1)) n + bm f (n + 1) / 2 ^ n % 2 = ct f n + _
    unfold bm
    by_cases e : f n = true
    · rw [if_pos e, if_pos e]
      have e2 : pcn (bm f n + 2 ^ n) n = pcn (bm f n) n := by
        have := pcn_m (y := bm f n) (c := 1) n n (Nat.le_refl _)
        rw [Nat.mul_one] at this
        exact this
      rw [e2, ih, Nat.add_div_right _ (Nat.two_pow_pos n), Nat.div_eq_of_lt h]
    · rw [if_neg e, if_neg e, Nat.add_zero, ih, Nat.div_eq_of_lt h]
theorem pcn_up {x n : Nat} (h : x < 2 ^ n) : ∀ m : Nat, n ≤ m → pcn x m = pcn x n
  | 0, hm => by rw [show n = 0 by omega]
  | m + 1, hm => by
    by_cases e : n = m + 1
    · rw [e]
    · have ih := pcn_up h m (by omega)
      have h2 : 2 ^ n ≤ 2 ^ m := Nat.pow_le_pow_right (by decide) (by omega)
      show pcn x m + x / 2 ^ m % 2 = pcn x n
      rw [ih, Nat.div_eq_of_lt (by omega)]
      omega
theorem pcn_64 {f : Nat → Bool} {n : Nat} (h : n ≤ 64) : pcn (bm f n) 64 = ct f n := by
  rw [pcn_up (bm_lt f n) 64 h, pcn_bm]
theorem ct_all : ∀ n : Nat, ct (fun _ => true) n = n ∧ bm (fun _ => true) n + 1 = 2 ^ n
  | 0 => ⟨rfl, rfl⟩
  | n + 1 => by
    obtain ⟨h1, h2⟩ := ct_all n
    unfold ct bm
    rw [if_pos rfl, if_pos rfl, h1, Nat.pow_succ]
    omega
theorem pcn_ones {k : Nat} (h : k ≤ 64) : pcn (2 ^ k - 1) 64 = k := by
  have h2 := (ct_all k).2
  rw [show 2 ^ k - 1 = bm (fun _ => true) k by omega, pcn_64 h, (ct_all k).1]
theorem ub_m1 {s : Nat} (h : s < 64) : ub (z64 (lshl 1 s - 1)) = 2 ^ s - 1 := by
  have h1 := p64 h
  have h2 := ub_1s h
  rw [ub_sub (by rw [h2]; show 1 ≤ _; omega), h2]
  rfl
theorem ub_m2 {s : Nat} (h : s < 64) : ub (z64 (lshl 2 s - 1)) = 2 ^ (s + 1) - 1 := by
  have h1 := p64 h
  have e : ub (z64 (lshl 2 s - 1)) = ub ((2 : Int) * 2 ^ s - 1) := by
    rw [ub_z64, lshl_eq h]
    unfold ub
    have e2 : z64 (2 * 2 ^ s) % 18446744073709551616 = (2 * 2 ^ s) % 18446744073709551616 := Int.bmod_emod ..
    omega
  rw [e, show (2 : Int) * 2 ^ s - 1 = ((2 ^ (s + 1) - 1 : Nat) : Int) by
    rw [← p2c, Int.pow_succ]; omega]
  refine ub_nat ?_
  have : 2 ^ (s + 1) ≤ 2 ^ 64 := Nat.pow_le_pow_right (by decide) (by omega)
  have e64 : (2 : Nat) ^ 64 = 18446744073709551616 := by decide
  omega
theorem pcn_low {x : Int} {f : Nat → Bool} {n s : Nat} (hx : ub x = bm f n) (hs : s ≤ n) (hn : n ≤ 64) : pcn (ub x &&& (2 ^ s - 1)) 64 = ct f s := by
  rw [hx, Nat.and_two_pow_sub_one_eq_mod, bm_mod f s n hs, pcn_64 (by omega)]
/-- the least bit -/
def isLow (x : Int) (k : Nat) : Prop := k < 64 ∧ tb x k = true ∧ ∀ j : Nat, j < k → tb x j = false
theorem low_ex {x : Int} (h : ¬ ub x = 0) : ∃ k : Nat, isLow x k := by
  have key : ∀ n : Nat, (∀ j : Nat, j < n → tb x j = false) ∨ ∃ k : Nat, k < n ∧ tb x k = true ∧ ∀ j : Nat, j < k → tb x j = false := fun n => by
    induction n with
    | zero => exact Or.inl (fun j hj => by omega)
    | succ n ih =>
      rcases ih with ih | ⟨k, k0, k1, k2⟩
      · cases e : tb x n with
        | true => exact Or.inr ⟨n, by omega, e, ih⟩
        | false =>
          refine Or.inl (fun j hj => ?_)
          by_cases ej : j = n
          · rw [ej]; exact e
          · exact ih j (by omega)
      · exact Or.inr ⟨k, by omega, k1, k2⟩
  rcases key 64 with h1 | ⟨k, k0, k1, k2⟩
  · refine absurd ?_ h
    apply Nat.eq_of_testBit_eq
    intro j
    rw [Nat.zero_testBit]
    by_cases ej : j < 64
    · exact h1 j ej
    · refine Nat.testBit_lt_two_pow (Nat.lt_of_lt_of_le (ub_lt x) ?_)
      show 2 ^ 64 ≤ 2 ^ j
      exact Nat.pow_le_pow_right (by decide) (by omega)
  · exact ⟨k, k0, k1, k2⟩
theorem low_u {x : Int} {k j : Nat} (h : isLow x k) (g : isLow x j) : k = j := by
  rcases (show k = j ∨ k < j ∨ j < k by omega) with e | e | e
  · exact e
  · exact absurd h.2.1 (by rw [g.2.2 k e]; decide)
  · exact absurd g.2.1 (by rw [h.2.2 j e]; decide)
theorem low_and {x : Int} {k : Nat} (h : isLow x k) : ub (land x (z64 (-x))) = 2 ^ k := by
  obtain ⟨k0, k1, k2⟩ := h
  have hu : ∃ m : Nat, ub x = 2 ^ (k + 1) * m + 2 ^ k := by
    refine ⟨ub x / 2 ^ (k + 1), ?_⟩
    have h1 := Nat.div_add_mod (ub x) (2 ^ (k + 1))
    have h2 : ub x % 2 ^ (k + 1) = 2 ^ k := by
      apply Nat.eq_of_testBit_eq
      intro j
      rw [Nat.testBit_mod_two_pow, Nat.testBit_two_pow]
      by_cases e : j < k + 1
      · rw [decide_eq_true e]
        by_cases e2 : k = j
        · rw [decide_eq_true e2, ← e2]
          unfold tb at k1
          rw [k1]; rfl
        · rw [decide_eq_false e2]
          have := k2 j (by omega)
          unfold tb at this
          rw [this]; rfl
      · rw [decide_eq_false e, decide_eq_false (by omega)]; rfl
    omega
  obtain ⟨m, hm⟩ := hu
  have hp := Nat.two_pow_pos k
  have hlt := ub_lt x
  have e1 : ub (z64 (-x)) = 2 ^ 64 - ((2 ^ (k + 1) * m + (2 ^ k - 1)) + 1) := by
    rw [show 2 ^ (k + 1) * m + (2 ^ k - 1) + 1 = ub x by omega, ub_z64]
    have : (2 : Nat) ^ 64 = 18446744073709551616 := by decide
    rw [this]
    have h0 : 0 < ub x := by omega
    unfold ub at h0 ⊢
    omega
  have e2 : (2 ^ (k + 1) * m + (2 ^ k - 1)) < 2 ^ 64 := by
    have : (2 : Nat) ^ 64 = 18446744073709551616 := by decide
    omega
  rw [ub_land, e1, hm]
  apply Nat.eq_of_testBit_eq
  intro j
  have hk : 2 ^ k < 2 ^ (k + 1) := by rw [Nat.pow_succ]; omega
  rw [Nat.testBit_and, Nat.testBit_two_pow_mul_add _ hk, Nat.testBit_two_pow_sub_succ e2, Nat.testBit_two_pow_mul_add _ (by omega), Nat.testBit_two_pow]
  by_cases e : j < k + 1
  · rw [if_pos e, if_pos e, Nat.testBit_two_pow_sub_one, decide_eq_true (show j < 64 by omega)]
    by_cases ek : k = j
    · rw [decide_eq_true ek, decide_eq_false (by omega)]; rfl
    · rw [decide_eq_false ek]; rfl
  · rw [if_neg e, if_neg e, decide_eq_false (show ¬ k = j by omega)]
    cases Nat.testBit m (j - (k + 1)) <;> simp
theorem qFewest_leastOf {d : Nat} {M : xM} {Q : xQ} {x : Int} {k : Nat} (hk : isLow x k) (h : Q (xI ((k : Int) - 1)) M) : Ru (d + 1) kFewest_leastOf 0 [xL x, xU] [] M Q := by
  have hlt := hk.1
  refine vFewest_leastOf_0 (qJ_bitCount (vFewest_leastOf_9 ?_))
  have e := low_and hk
  have hp := Nat.two_pow_pos k
  rw [ub_sub (by rw [e]; show 1 ≤ _; omega), e]
  rw [show 2 ^ k - ub 1 = 2 ^ k - 1 from rfl, pcn_ones (by omega), z32_id (by omega) (by omega)]
  exact h
theorem qMo_leastOf {d : Nat} {M : xM} {Q : xQ} {x : Int} {k : Nat} (hx : i64 x) (hk : isLow x k) (h : Q (xI ((k : Int) - 1)) M) : Ru d kMo_leastOf 0 [xL x, xU, xU] [] M Q := by
  obtain ⟨k0, k1, k2⟩ := hk
  refine vMo_leastOf_0 (loop_up (k : Int) (P := fun i => 0 ≤ i → Ru d kMo_leastOf 2 [xL x, xU, xI i] [] M Q) (fun i hi ih i0 => ?_) 0 (by omega) (by decide))
  obtain ⟨j, rfl⟩ := nat_of i0
  refine vMo_leastOf_2 ?_
  rw [shr_bit hx (by omega)]
  refine ⟨fun q => ?_, fun q => ?_⟩
  · have ej : j = k := by
      rcases (show j = k ∨ j < k by omega) with e | e
      · exact e
      · exact absurd (k2 j e) q
    rw [ej, z32_id (by omega) (by omega)]
    exact h
  · have ej : j < k := by
      rcases (show j = k ∨ j < k by omega) with e | e
      · rw [e, k1] at q; exact absurd (by decide) q
      · exact e
    rw [z32_id (by omega) (by omega)]
    exact ih (j + 1) (by omega) (by omega) (by omega)

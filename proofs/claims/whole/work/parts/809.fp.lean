/-! STEPS IN THE MEAN: the double of a whole number over 2^32. -/
theorem un64 {n : Nat} (h : n < 18446744073709551616) : (UInt64.ofNat n).toNat = n := by
  show (BitVec.ofNat 64 n).toNat = n
  rw [BitVec.toNat_ofNat]
  exact Nat.mod_eq_of_lt h
theorem fp_rr {A D k : Nat} {e : Int} (hD : 2 ^ 52 * D = 2 ^ 52 ∨ D = 2 ^ 52) (h0 : D * 2 ^ k ≤ A) (h1 : A < D * 2 ^ (k + 1)) (hk : k ≤ 52) (e0 : -200 ≤ e) (e1 : e ≤ 200) : FP.Core.roundRatio FP.Core.b64 false A D e = .fin false (A * 2 ^ (52 - k) / D) ((k : Int) + e - 52) ∨ ¬ A * 2 ^ (52 - k) % D = 0 := by
  by_cases hm : A * 2 ^ (52 - k) % D = 0
  · left
    have hD2 : D = 2 ^ 0 ∨ D = 2 ^ 52 := by
      rcases hD with h | h
      · left; omega
      · right; exact h
    have hDp : 0 < D := by rcases hD2 with h | h <;> rw [h] <;> decide
    have hp := Nat.two_pow_pos k
    have hA : A ≠ 0 := by
      have := Nat.mul_pos hDp hp
      omega
    have hq : FP.Core.b64.qmin = -1074 := by decide
    have hq2 : FP.Core.b64.qmax = 971 := by decide
    have hlog : (A.log2 : Int) - (D.log2 : Int) = k := by
      rcases hD2 with h | h
      · have e2 : A.log2 = k := (Nat.log2_eq_iff hA).mpr ⟨by rw [h] at h0; omega, by rw [h] at h1; omega⟩
        have e3 : D.log2 = 0 := by rw [h]; decide
        omega
      · have e2 : A.log2 = 52 + k := (Nat.log2_eq_iff hA).mpr ⟨by rw [h, ← Nat.pow_add] at h0; exact h0, by rw [h, ← Nat.pow_add] at h1; exact h1⟩
        have e3 : D.log2 = 52 := by rw [h]; decide
        omega
    have hlead : FP.Core.leading A D = k := by
      show (if D * 2 ^ ((A.log2 : Int) - (D.log2 : Int)).toNat ≤ A * 2 ^ (-((A.log2 : Int) - (D.log2 : Int))).toNat then ((A.log2 : Int) - (D.log2 : Int)) else ((A.log2 : Int) - (D.log2 : Int)) - 1) = _
      rw [hlog, show ((k : Int)).toNat = k by omega, show (-(k : Int)).toNat = 0 by omega, if_pos (by omega)]
    have hquant : FP.Core.quantum FP.Core.b64 A D e = (k : Int) + e - 52 := by
      unfold FP.Core.quantum
      rw [hlead, hq, show ((FP.Core.b64.p : Nat) : Int) = 53 from rfl]
      omega
    unfold FP.Core.roundRatio
    rw [if_neg hA, hquant]
    unfold FP.Core.roundAt FP.Core.unitsNum FP.Core.unitsDen
    rw [show (e - ((k : Int) + e - 52)).toNat = 52 - k by omega, show ((k : Int) + e - 52 - e).toNat = 0 by omega, show D * 2 ^ 0 = D by omega]
    have hn : FP.Core.nearest (A * 2 ^ (52 - k)) D = A * 2 ^ (52 - k) / D := by
      unfold FP.Core.nearest
      rw [hm, if_pos (by omega)]
    rw [hn]
    have hlt : A * 2 ^ (52 - k) / D < 2 ^ 53 := by
      refine (Nat.div_lt_iff_lt_mul hDp).mpr ?_
      have h3 : A * 2 ^ (52 - k) < D * 2 ^ (k + 1) * 2 ^ (52 - k) := Nat.mul_lt_mul_of_pos_right h1 (Nat.two_pow_pos _)
      rw [Nat.mul_assoc, ← Nat.pow_add, show k + 1 + (52 - k) = 53 by omega, Nat.mul_comm D] at h3
      exact h3
    unfold FP.Core.settle
    rw [if_pos (show A * 2 ^ (52 - k) / D < 2 ^ FP.Core.b64.p from hlt)]
    unfold FP.Core.bound
    rw [if_pos (by rw [hq2]; omega)]
  · exact Or.inr hm
theorem fp_enc {c : Nat} {q : Int} (h0 : 4503599627370496 ≤ c) (q0 : -1074 ≤ q) : FP.Core.encode FP.Core.b64 (.fin false c q) = ((q + 1075).toNat) * 4503599627370496 + (c - 4503599627370496) := by
  have ht : FP.Core.b64.tails = 4503599627370496 := by decide
  have hq : FP.Core.b64.qmin = -1074 := by decide
  show (if c < FP.Core.b64.tails then FP.Core.assemble FP.Core.b64 false 0 c else FP.Core.assemble FP.Core.b64 false ((q - FP.Core.b64.qmin).toNat + 1) (c - FP.Core.b64.tails)) = _
  rw [ht, hq, if_neg (by omega)]
  unfold FP.Core.assemble
  rw [ht]
  show (0 * FP.Core.b64.exps + ((q - -1074).toNat + 1)) * 4503599627370496 + (c - 4503599627370496) = _
  rw [show 0 * FP.Core.b64.exps + ((q - -1074).toNat + 1) = (q + 1075).toNat by omega]
theorem fp_dec {e t : Nat} (e0 : 1 ≤ e) (e1 : e ≤ 2046) (ht : t < 4503599627370496) : FP.Core.decode FP.Core.b64 (e * 4503599627370496 + t) = .fin false (4503599627370496 + t) (-1074 + ((e : Int) - 1)) := by
  have h1 : FP.Core.b64.tails = 4503599627370496 := by decide
  have h2 : FP.Core.b64.exps = 2048 := by decide
  have h3 : FP.Core.b64.qmin = -1074 := by decide
  have eE : FP.Core.fieldE FP.Core.b64 (e * 4503599627370496 + t) = e := by
    unfold FP.Core.fieldE
    rw [h1, h2]
    omega
  have eT : FP.Core.fieldT FP.Core.b64 (e * 4503599627370496 + t) = t := by
    unfold FP.Core.fieldT
    rw [h1]
    omega
  have eS : FP.Core.fieldS FP.Core.b64 (e * 4503599627370496 + t) = false := by
    unfold FP.Core.fieldS
    rw [h1, h2, show (e * 4503599627370496 + t) / 4503599627370496 / 2048 % 2 = 0 by omega]
    rfl
  unfold FP.Core.decode
  rw [eE, eT, eS, h1, h2, h3, if_neg (by omega), if_neg (by omega)]
theorem fp_c {A k : Nat} (h0 : 2 ^ k ≤ A) (h1 : A < 2 ^ (k + 1)) (hk : k ≤ 52) : 4503599627370496 ≤ A * 2 ^ (52 - k) ∧ A * 2 ^ (52 - k) < 9007199254740992 := by
  have e : 2 ^ k * 2 ^ (52 - k) = 4503599627370496 := by
    rw [← Nat.pow_add, show k + (52 - k) = 52 by omega]
  have h2 : 2 ^ k * 2 ^ (52 - k) ≤ A * 2 ^ (52 - k) := Nat.mul_le_mul_right _ h0
  have h3 : A * 2 ^ (52 - k) < 2 ^ (k + 1) * 2 ^ (52 - k) := Nat.mul_lt_mul_of_pos_right h1 (Nat.two_pow_pos _)
  rw [Nat.pow_succ, Nat.mul_right_comm, e] at h3
  omega
theorem l2d_eq {A k : Nat} (h0 : 2 ^ k ≤ A) (h1 : A < 2 ^ (k + 1)) (hk : k ≤ 52) : l2d (A : Int) = (((k + 1023) * 4503599627370496 + (A * 2 ^ (52 - k) - 4503599627370496) : Nat) : Int) := by
  have hc := fp_c h0 h1 hk
  have hA : A < 9223372036854775808 := by
    have : 2 ^ (k + 1) ≤ 2 ^ 53 := Nat.pow_le_pow_right (by decide) (by omega)
    have e : (2 : Nat) ^ 53 = 9007199254740992 := by decide
    omega
  have e1 : (Int64.ofInt (A : Int)).toInt = (A : Int) := t64 ⟨by omega, by omega⟩
  have e2 : FP.Core.fromInt FP.Core.b64 (A : Int) = (k + 1023) * 4503599627370496 + (A * 2 ^ (52 - k) - 4503599627370496) := by
    show FP.Core.encode FP.Core.b64 (FP.Core.roundRatio FP.Core.b64 (decide ((A : Int) < 0)) (A : Int).natAbs 1 0) = _
    rw [decide_eq_false (by omega), Int.natAbs_natCast]
    rcases fp_rr (A := A) (D := 1) (k := k) (e := 0) (Or.inl rfl) (by omega) (by omega) hk (by decide) (by decide) with h | h
    · rw [h, Nat.div_one, fp_enc hc.1 (by omega)]
      omega
    · exact absurd (Nat.mod_one _) h
  show ((UInt64.ofNat (FP.Core.fromInt FP.Core.b64 (Int64.ofInt (A : Int)).toInt)).toNat : Int) = _
  rw [e1, e2, un64 (by omega)]
theorem fp_quo {c b : Nat} {q r : Int} (hb : ¬ b = 0) : FP.Core.quotient FP.Core.b64 (.fin false c q) (.fin false b r) = FP.Core.roundRatio FP.Core.b64 false c b (q - r) := by
  show (if b = 0 then (if c = 0 then FP.Core.Datum.nan else .inf (false != false)) else FP.Core.roundRatio FP.Core.b64 (false != false) c b (q - r)) = _
  rw [if_neg hb]
  rfl
theorem ddiv_eq {A k : Nat} (h0 : 2 ^ k ≤ A) (h1 : A < 2 ^ (k + 1)) (hk : k ≤ 52) (hk2 : 32 ≤ k) : ddiv (l2d (A : Int)) 4751297606875873280 = (((k + 991) * 4503599627370496 + (A * 2 ^ (52 - k) - 4503599627370496) : Nat) : Int) := by
  have hc := fp_c h0 h1 hk
  have e64 : (2 : Nat) ^ 64 = 18446744073709551616 := by decide
  have e52 : (2 : Nat) ^ 52 = 4503599627370496 := by decide
  rw [l2d_eq h0 h1 hk]
  have en : ((((k + 1023) * 4503599627370496 + (A * 2 ^ (52 - k) - 4503599627370496) : Nat) : Int)).toNat = (k + 1023) * 4503599627370496 + (A * 2 ^ (52 - k) - 4503599627370496) := by omega
  have ed : (4751297606875873280 : Int).toNat = 1055 * 4503599627370496 + 0 := by decide
  show ((UInt64.ofNat (FP.Core.div FP.Core.b64 (UInt64.ofNat (((((k + 1023) * 4503599627370496 + (A * 2 ^ (52 - k) - 4503599627370496) : Nat) : Int)).toNat)).toNat (UInt64.ofNat (4751297606875873280 : Int).toNat).toNat)).toNat : Int) = _
  rw [en, ed, un64 (n := (k + 1023) * 4503599627370496 + (A * 2 ^ (52 - k) - 4503599627370496)) (by omega), un64 (n := 1055 * 4503599627370496 + 0) (by decide)]
  unfold FP.Core.div
  rw [fp_dec (by omega) (by omega) (by omega), fp_dec (by decide) (by decide) (by decide)]
  have eq : FP.Core.quotient FP.Core.b64 (.fin false (4503599627370496 + (A * 2 ^ (52 - k) - 4503599627370496)) (-1074 + (((k + 1023 : Nat) : Int) - 1))) (.fin false (4503599627370496 + 0) (-1074 + (((1055 : Nat) : Int) - 1))) = .fin false (A * 2 ^ (52 - k)) ((k : Int) - 84) := by
    rw [fp_quo (by decide), show 4503599627370496 + (A * 2 ^ (52 - k) - 4503599627370496) = A * 2 ^ (52 - k) by omega, show (-1074 + (((k + 1023 : Nat) : Int) - 1)) - (-1074 + (((1055 : Nat) : Int) - 1)) = (k : Int) - 32 by omega]
    rcases fp_rr (A := A * 2 ^ (52 - k)) (D := 4503599627370496 + 0) (k := 0) (e := (k : Int) - 32) (Or.inr (by decide)) (by omega) (by omega) (by decide) (by omega) (by omega) with h | h
    · rw [h, show 52 - 0 = 52 from rfl, e52, show 4503599627370496 + 0 = 4503599627370496 from rfl, Nat.mul_div_cancel _ (by decide), show ((0 : Nat) : Int) + ((k : Int) - 32) - 52 = (k : Int) - 84 by omega]
    · refine absurd ?_ h
      rw [e52]
      exact Nat.mul_mod_left _ _
  rw [eq, fp_enc hc.1 (by omega), show ((k : Int) - 84 + 1075).toNat = k + 991 by omega, un64 (by omega)]
theorem dok_eq {n : Nat} (h : n < 9218868437227405312) : dok (n : Int) := by
  unfold dok
  rw [show ((n : Int)).toNat = n by omega]
  have h2 : (UInt64.ofNat n &&& 0x7fffffffffffffff).toNat ≤ n := by
    rw [UInt64.toNat_and, un64 (by omega)]
    exact Nat.and_le_left
  rw [UInt64.le_iff_toNat_le]
  have h3 : (0x7ff0000000000000 : UInt64).toNat = 9218868437227405312 := by decide
  omega
theorem d2l_eq {n : Nat} (h : n < 9223372036854775808) : d2l (n : Int) = n := by
  unfold d2l
  rw [show ((n : Int)).toNat = n by omega]
  have e : (UInt64.ofNat n).toInt64 = Int64.ofInt (n : Int) := by
    apply Int64.toBitVec_inj.mp
    show BitVec.ofNat 64 n = BitVec.ofInt 64 (n : Int)
    rw [BitVec.ofInt_natCast]
  rw [e, t64 ⟨by omega, by omega⟩]
theorem top_ex {A : Nat} (h0 : 4294967296 ≤ A) (h1 : A < 9007199254740992) : ∃ k : Nat, 2 ^ k ≤ A ∧ A < 2 ^ (k + 1) ∧ 32 ≤ k ∧ k ≤ 52 := by
  have hA : A ≠ 0 := by omega
  obtain ⟨h2, h3⟩ := (Nat.log2_eq_iff (k := A.log2) hA).mp rfl
  refine ⟨A.log2, h2, h3, ?_, ?_⟩
  · refine Classical.byContradiction fun z => ?_
    have : 2 ^ (A.log2 + 1) ≤ 2 ^ 32 := Nat.pow_le_pow_right (by decide) (by omega)
    have e : (2 : Nat) ^ 32 = 4294967296 := by decide
    omega
  · refine Classical.byContradiction fun z => ?_
    have : 2 ^ 53 ≤ 2 ^ A.log2 := Nat.pow_le_pow_right (by decide) (by omega)
    have e : (2 : Nat) ^ 53 = 9007199254740992 := by decide
    omega
theorem qRS_bitsOfMean {d : Nat} {M : xM} {Q : xQ} {A k : Nat} (h0 : 2 ^ k ≤ A) (h1 : A < 2 ^ (k + 1)) (hk : k ≤ 52) (hk2 : 32 ≤ k) (h : Q (xL (((k + 991) * 4503599627370496 + (A * 2 ^ (52 - k) - 4503599627370496) : Nat) : Int)) M) : Ru d kRS_bitsOfMean 0 [xL (A : Int), xU, xU, xU, xU, xU, xU] [] M Q := by
  have hc := fp_c h0 h1 hk
  have hA : A < 9007199254740992 := by
    have : 2 ^ (k + 1) ≤ 2 ^ 53 := Nat.pow_le_pow_right (by decide) (by omega)
    have e : (2 : Nat) ^ 53 = 9007199254740992 := by decide
    omega
  refine vRS_bitsOfMean_0 ?_
  rw [show xI 0 = xI (if (1 : Int) ≤ (k : Int) then 1 - 1 else (k : Int)) by rw [if_pos (by omega)]; rfl]
  refine (loop_up 53 (P := fun i => 1 ≤ i → Ru d kRS_bitsOfMean 4 [xL (A : Int), xU, xI (if i ≤ k then i - 1 else k), xI i, xU, xU, xU] [] M Q) (fun i hi ih i0 => ?_) 1 (by decide) (by decide))
  refine vRS_bitsOfMean_4 ⟨fun q => ?_, fun q => ?_⟩
  · rw [if_neg (by omega), z32_id (x := (k : Int) - 32) (by omega) (by omega), z32_id (x := (k : Int) - 32 + 1023) (by omega) (by omega), z32_id (x := 52 - (k : Int)) (by omega) (by omega)]
    have e1 : land (lshl (A : Int) (52 - (k : Int))) 4503599627370495 = ((A * 2 ^ (52 - k) - 4503599627370496 : Nat) : Int) := by
      have e2 : lshl (A : Int) (52 - (k : Int)) = ((A * 2 ^ (52 - k) : Nat) : Int) := by
        rw [show (52 : Int) - (k : Int) = ((52 - k : Nat) : Int) by omega, lshl_eq (by omega), p2i, ← Int.natCast_mul, z64_id (by omega) (by omega)]
      rw [e2]
      have e3 : land ((A * 2 ^ (52 - k) : Nat) : Int) 4503599627370495 = ((A * 2 ^ (52 - k) : Nat) : Int) % 2 ^ 52 := land_mask _ (k := 52) (by decide)
      rw [e3]
      have e4 : (2 : Int) ^ 52 = 4503599627370496 := by decide
      rw [e4]
      omega
    have e5 : lshl ((k : Int) - 32 + 1023) 52 = (((k + 991) * 4503599627370496 : Nat) : Int) := by
      have e6 : lshl ((k : Int) - 32 + 1023) ((52 : Nat) : Int) = z64 (((k : Int) - 32 + 1023) * 2 ^ 52) := lshl_eq (by decide)
      have e4 : (2 : Int) ^ 52 = 4503599627370496 := by decide
      rw [e4, z64_id (by omega) (by omega)] at e6
      show lshl ((k : Int) - 32 + 1023) ((52 : Nat) : Int) = _
      rw [e6]
      omega
    rw [e1, e5]
    have e7 : lor (((k + 991) * 4503599627370496 : Nat) : Int) ((A * 2 ^ (52 - k) - 4503599627370496 : Nat) : Int) = (((k + 991) * 4503599627370496 + (A * 2 ^ (52 - k) - 4503599627370496) : Nat) : Int) := by
      refine ub_inj (lor_in _ _).1 (lor_in _ _).2 (by omega) (by omega) ?_
      rw [ub_lor, ub_nat (by omega), ub_nat (by omega), ub_nat (by omega)]
      have e9 : (2 : Nat) ^ 52 = 4503599627370496 := by decide
      have e8 := Nat.two_pow_add_eq_or_of_lt (i := 52) (b := A * 2 ^ (52 - k) - 4503599627370496) (by omega) (k + 991)
      rw [show (2 : Nat) ^ 52 = 4503599627370496 by decide, Nat.mul_comm 4503599627370496] at e8
      exact e8.symm
    rw [e7]
    exact h
  · have ih' := ih (i + 1) (by omega) (by omega) (by omega)
    obtain ⟨j, rfl⟩ := nat_of (show 0 ≤ i by omega)
    rw [lshr_eq ⟨by omega, by omega⟩ (by omega), z32_id (by omega) (by omega), p2i, ← Int.natCast_ediv]
    refine ⟨fun q2 => ?_, fun q2 => ?_⟩
    · have hj : k < j := by
        refine Classical.byContradiction fun z => ?_
        have h5 : A / 2 ^ j = 0 := by omega
        have h6 : 2 ^ j ≤ 2 ^ k := Nat.pow_le_pow_right (by decide) (by omega)
        have h7 := Nat.div_pos (show 2 ^ j ≤ A by omega) (Nat.two_pow_pos j)
        omega
      rw [if_neg (by omega)] at ih' ⊢
      exact ih'
    · have hj : j ≤ k := by
        refine Classical.byContradiction fun z => q2 ?_
        have h6 : 2 ^ (k + 1) ≤ 2 ^ j := Nat.pow_le_pow_right (by decide) (by omega)
        rw [Nat.div_eq_of_lt (by omega)]
        rfl
      by_cases e : (j : Int) + 1 ≤ k
      · rw [if_pos e, show (j : Int) + 1 - 1 = j by omega] at ih'
        exact ih'
      · rw [if_neg e, show (k : Int) = j by omega] at ih'
        exact ih'

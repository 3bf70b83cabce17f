/-! SMALL METHODS of both classes. -/
theorem qRS_unsigned {d : Nat} {M : xM} {Q : xQ} {a : Int} (h : Q (xL (uns a)) M) : Ru d kRS_unsigned 0 [xI a] [] M Q := vRS_unsigned_0 (by rw [uns_eq]; exact h)
theorem qMo_unsigned {d : Nat} {M : xM} {Q : xQ} {a : Int} (h : Q (xL (uns a)) M) : Ru d kMo_unsigned 0 [xI a] [] M Q := vMo_unsigned_0 (by rw [uns_eq]; exact h)
theorem qRS_widthOf {d : Nat} {M : xM} {Q : xQ} {n : Int} (h1 : 0 ≤ n) (h2 : n ≤ 32) (h : Q (xL (wd n)) M) : Ru d kRS_widthOf 0 [xI n] [] M Q := vRS_widthOf_0 (by rw [wd_lshr h1 h2]; exact h)
theorem qMo_sizeOf {d : Nat} {M : xM} {Q : xQ} {n : Int} (h1 : 0 ≤ n) (h2 : n ≤ 32) (h : Q (xL (wd n)) M) : Ru d kMo_sizeOf 0 [xI n] [] M Q := vMo_sizeOf_0 (by rw [wd_lshl h1 h2]; exact h)
def isB (v n : Int) : Prop := 0 ≤ n ∧ n ≤ 32 ∧ uns v % wd n = 0
theorem qRS_isBeginning {d : Nat} {M : xM} {Q : xQ} {v n : Int} (h1 : isB v n → Q (xI 1) M) (h0 : ¬ isB v n → Q (xI 0) M) : Ru (d + 1) kRS_isBeginning 0 [xI v, xI n] [] M Q := by
  refine vRS_isBeginning_0 ⟨fun q => h0 (fun z => by have := z.1; omega), fun q => ⟨fun q2 => h0 (fun z => by have := z.2.1; omega), fun q2 => ?_⟩⟩
  refine qRS_unsigned (vRS_isBeginning_14 (qRS_widthOf (by omega) (by omega) (vRS_isBeginning_18 ?_)))
  rw [wd_land (by omega) (by omega)]
  exact ⟨fun q3 => h0 (fun z => q3 z.2.2), fun q3 => h1 ⟨by omega, by omega, Classical.not_not.mp q3⟩⟩
theorem qMo_isIn {d : Nat} {M : xM} {Q : xQ} {v a b : Int} (h1 : a ≤ v → v ≤ b → Q (xI 1) M) (h0 : ¬ (a ≤ v ∧ v ≤ b) → Q (xI 0) M) : Ru d kMo_isIn 0 [xL v, xU, xL a, xU, xL b, xU] [] M Q :=
  vMo_isIn_0 ⟨fun q => h0 (by omega), fun q => ⟨fun q2 => h0 (by omega), fun q2 => h1 (by omega) (by omega)⟩⟩
theorem qMo_isBeginning {d : Nat} {M : xM} {Q : xQ} {v n : Int} (h1 : isB v n → Q (xI 1) M) (h0 : ¬ isB v n → Q (xI 0) M) : Ru (d + 1) kMo_isBeginning 0 [xI v, xI n] [] M Q := by
  refine vMo_isBeginning_0 (qMo_isIn (fun q1 q2 => vMo_isBeginning_9 ⟨fun q => absurd q (by decide), fun _ => ?_⟩) (fun q => vMo_isBeginning_9 ⟨fun _ => h0 (fun z => q ⟨z.1, z.2.1⟩), fun q => absurd rfl q⟩))
  refine qMo_unsigned (vMo_isBeginning_16 (qMo_sizeOf q1 q2 (vMo_isBeginning_20 ⟨Int.ne_of_gt (wd_pos n), ?_⟩)))
  have hu := uns_in v
  rw [wd_lrem hu.1 (by omega) q1]
  exact ⟨fun q3 => h0 (fun z => q3 z.2.2), fun q3 => h1 ⟨q1, q2, Classical.not_not.mp q3⟩⟩
def isWy (g p : Int) : Prop := 0 ≤ g ∧ g ≤ 99 ∧ 0 ≤ p ∧ p ≤ 9
theorem qRS_isWay {d : Nat} {M : xM} {Q : xQ} {g p : Int} (h1 : isWy g p → Q (xI 1) M) (h0 : ¬ isWy g p → Q (xI 0) M) : Ru d kRS_isWay 0 [xI g, xI p] [] M Q := by
  unfold isWy at h1 h0
  exact vRS_isWay_0 ⟨fun q => h0 (by omega), fun q => ⟨fun q => h0 (by omega), fun q => ⟨fun q => h0 (by omega), fun q => ⟨fun q => h0 (by omega), fun q => h1 (by omega)⟩⟩⟩⟩
theorem qMo_isWay {d : Nat} {M : xM} {Q : xQ} {g p : Int} (h1 : isWy g p → Q (xI 1) M) (h0 : ¬ isWy g p → Q (xI 0) M) : Ru (d + 1) kMo_isWay 0 [xI g, xI p] [] M Q := by
  unfold isWy at h1 h0
  refine vMo_isWay_0 (qMo_isIn (fun q1 q2 => vMo_isWay_9 ⟨fun q => absurd q (by decide), fun _ => ?_⟩) (fun q => vMo_isWay_9 ⟨fun _ => h0 (by omega), fun q => absurd rfl q⟩))
  exact qMo_isIn (fun q3 q4 => vMo_isWay_21 ⟨fun q => absurd q (by decide), fun _ => h1 (by omega)⟩) (fun q => vMo_isWay_21 ⟨fun _ => h0 (by omega), fun q => absurd rfl q⟩)
theorem qRS_keyOf {d : Nat} {M : xM} {Q : xQ} {g p : Int} (hw : isWy g p) (h : Q (xI (10 * g + p)) M) : Ru d kRS_keyOf 0 [xI g, xI p] [] M Q := by
  unfold isWy at hw
  refine vRS_keyOf_0 ?_
  rw [z32_id (x := g * 10) (by omega) (by omega), z32_id (by omega) (by omega), show g * 10 + p = 10 * g + p by omega]
  exact h
/-- the first strides of a table -/
def tfM (M : xM) (t : Int) : xM := up (up (up (up (up (up (up (up (up M t 6 8) (t + 6) 0 4) (t + 6) 1 4) (t + 6) 2 4) (t + 6) 3 4) (t + 6) 4 4) (t + 6) 5 4) (t + 6) 6 4) (t + 6) 7 4
theorem qTable_takeFirstStrides {d : Nat} {M : xM} {Q : xQ} {t : Int} (h : Q xU (tfM M t)) : Ru d kTable_takeFirstStrides 0 [xO 6 t, xU] [] M Q := by
  refine vTable_takeFirstStrides_0 ?_
  refine vTable_takeFirstStrides_8 ⟨fun q => absurd q (by decide), fun _ => ⟨by decide, ?_⟩⟩
  refine vTable_takeFirstStrides_8 ⟨fun q => absurd q (by decide), fun _ => ⟨by decide, ?_⟩⟩
  refine vTable_takeFirstStrides_8 ⟨fun q => absurd q (by decide), fun _ => ⟨by decide, ?_⟩⟩
  refine vTable_takeFirstStrides_8 ⟨fun q => absurd q (by decide), fun _ => ⟨by decide, ?_⟩⟩
  refine vTable_takeFirstStrides_8 ⟨fun q => absurd q (by decide), fun _ => ⟨by decide, ?_⟩⟩
  refine vTable_takeFirstStrides_8 ⟨fun q => absurd q (by decide), fun _ => ⟨by decide, ?_⟩⟩
  refine vTable_takeFirstStrides_8 ⟨fun q => absurd q (by decide), fun _ => ⟨by decide, ?_⟩⟩
  refine vTable_takeFirstStrides_8 ⟨fun q => absurd q (by decide), fun _ => ⟨by decide, ?_⟩⟩
  exact vTable_takeFirstStrides_8 ⟨fun _ => h, fun q => absurd (by decide) q⟩

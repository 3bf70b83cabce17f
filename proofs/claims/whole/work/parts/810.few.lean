/-! THE FEWEST RULES: sets, lists, counts. -/
noncomputable def fS (T : TB) : Nat → Int → Int
  | 0, v => lshl 1 (hp T v + 1)
  | k + 1, v => if lfb T v (2 ^ (k + 1)) = true then lshl 1 (hp T v + 1) else if land (fS T k v) (fS T k (v + 2 ^ k)) = 0 then lor (fS T k v) (fS T k (v + 2 ^ k)) else land (fS T k v) (fS T k (v + 2 ^ k))
noncomputable def lw (S : Int) : Nat := Classical.epsilon (isLow S)
theorem lw_eq {S : Int} {k : Nat} (h : isLow S k) : lw S = k := low_u (Classical.epsilon_spec ⟨k, h⟩) h
theorem lw_ok {S : Int} (h : ¬ ub S = 0) : isLow S (lw S) := Classical.epsilon_spec (low_ex h)
/-- a hop is in a set -/
def me (S x : Int) : Prop := tb S (x + 1).toNat = true
theorem tb_land (x y : Int) (j : Nat) : tb (land x y) j = (tb x j && tb y j) := by
  unfold tb
  rw [ub_land, Nat.testBit_and]
theorem tb_lor (x y : Int) (j : Nat) : tb (lor x y) j = (tb x j || tb y j) := by
  unfold tb
  rw [ub_lor, Nat.testBit_or]
theorem tb_1 {x : Int} {j : Nat} (h0 : 0 ≤ x) (h1 : x < 64) : tb (lshl 1 x) j = decide (x.toNat = j) := by
  have e : lshl 1 x = lshl 1 ((x.toNat : Nat) : Int) := by rw [show ((x.toNat : Nat) : Int) = x by omega]
  unfold tb
  rw [e, ub_1s (by omega), Nat.testBit_two_pow]
theorem me_land {a b x : Int} : me (land a b) x ↔ me a x ∧ me b x := by
  unfold me
  rw [tb_land, Bool.and_eq_true]
theorem me_lor {a b x : Int} : me (lor a b) x ↔ me a x ∨ me b x := by
  unfold me
  rw [tb_lor, Bool.or_eq_true]
theorem me_0 {a b x : Int} (h : land a b = 0) (ha : me a x) (hb : me b x) : False := by
  have h1 : me (land a b) x := me_land.mpr ⟨ha, hb⟩
  unfold me tb at h1
  rw [h] at h1
  rw [show ub 0 = 0 from rfl, Nat.zero_testBit] at h1
  exact absurd h1 (by decide)
theorem hp_b {T : TB} (hw : tWF T) (v : Int) : 0 ≤ hp T v + 1 ∧ hp T v + 1 ≤ 60 := by
  have := hp_in hw v
  omega
section FewSets
variable {T : TB}
theorem fS_leaf {k : Nat} {v : Int} (h : lfb T v (2 ^ k) = true) : fS T k v = lshl 1 (hp T v + 1) := by
  cases k with
  | zero => rfl
  | succ k =>
    show (if lfb T v (2 ^ (k + 1)) = true then _ else _) = _
    rw [if_pos h]
theorem fS_and {k : Nat} {v : Int} (h : lfb T v (2 ^ (k + 1)) = false) (h2 : ¬ land (fS T k v) (fS T k (v + 2 ^ k)) = 0) : fS T (k + 1) v = land (fS T k v) (fS T k (v + 2 ^ k)) := by
  show (if lfb T v (2 ^ (k + 1)) = true then _ else _) = _
  rw [if_neg (by rw [h]; decide), if_neg h2]
theorem fS_or {k : Nat} {v : Int} (h : lfb T v (2 ^ (k + 1)) = false) (h2 : land (fS T k v) (fS T k (v + 2 ^ k)) = 0) : fS T (k + 1) v = lor (fS T k v) (fS T k (v + 2 ^ k)) := by
  show (if lfb T v (2 ^ (k + 1)) = true then _ else _) = _
  rw [if_neg (by rw [h]; decide), if_pos h2]
theorem lfb_0 {v : Int} : lfb T v (2 ^ 0) = true := lfb_t (fun a a0 a1 => by rw [show (2 : Int) ^ 0 = 1 from rfl] at a1; rw [show a = v by omega])
theorem lshl_in {x y : Int} : -9223372036854775808 ≤ lshl x y ∧ lshl x y < 9223372036854775808 := by
  have h := (Int64.ofInt x <<< ((Int32.ofInt y).toInt64 &&& 63)).toInt_lt
  have h2 := (Int64.ofInt x <<< ((Int32.ofInt y).toInt64 &&& 63)).le_toInt
  unfold lshl
  omega
theorem fS_in : ∀ (k : Nat) (v : Int), i64 (fS T k v)
  | 0, v => lshl_in
  | k + 1, v => by
    cases h : lfb T v (2 ^ (k + 1)) with
    | true => rw [fS_leaf h]; exact lshl_in
    | false =>
      by_cases h2 : land (fS T k v) (fS T k (v + 2 ^ k)) = 0
      · rw [fS_or h h2]; exact lor_in _ _
      · rw [fS_and h h2]; exact land_in _ _
/-- what is in a set is a hop of an address -/
theorem fS_me (hw : tWF T) : ∀ (k : Nat) (v : Int) (j : Nat), tb (fS T k v) j = true → ∃ a : Int, v ≤ a ∧ a < v + 2 ^ k ∧ ((j : Int) = hp T a + 1)
  | 0, v, j, h => by
    have hb := hp_b hw v
    have h1 : tb (lshl 1 (hp T v + 1)) j = true := h
    rw [tb_1 hb.1 (by omega)] at h1
    have := of_decide_eq_true h1
    exact ⟨v, Int.le_refl _, by rw [show (2 : Int) ^ 0 = 1 from rfl]; omega, by omega⟩
  | k + 1, v, j, h => by
    have hb := hp_b hw v
    have hpw : (2 : Int) ^ (k + 1) = 2 ^ k * 2 := Int.pow_succ ..
    have hpp : (0 : Int) < 2 ^ k := Int.pow_pos (by decide)
    cases hl : lfb T v (2 ^ (k + 1)) with
    | true =>
      rw [fS_leaf hl, tb_1 hb.1 (by omega)] at h
      have := of_decide_eq_true h
      exact ⟨v, Int.le_refl _, by omega, by omega⟩
    | false =>
      by_cases h2 : land (fS T k v) (fS T k (v + 2 ^ k)) = 0
      · rw [fS_or hl h2, tb_lor, Bool.or_eq_true] at h
        rcases h with h | h
        · obtain ⟨a, a0, a1, a2⟩ := fS_me hw k v j h
          exact ⟨a, a0, by omega, a2⟩
        · obtain ⟨a, a0, a1, a2⟩ := fS_me hw k (v + 2 ^ k) j h
          exact ⟨a, by omega, by omega, a2⟩
      · rw [fS_and hl h2, tb_land, Bool.and_eq_true] at h
        obtain ⟨a, a0, a1, a2⟩ := fS_me hw k v j h.1
        exact ⟨a, a0, by omega, a2⟩
theorem fS_ne (hw : tWF T) : ∀ (k : Nat) (v : Int), ¬ ub (fS T k v) = 0
  | 0, v => by
    have hb := hp_b hw v
    intro h
    have h1 : tb (lshl 1 (hp T v + 1)) (hp T v + 1).toNat = true := by rw [tb_1 hb.1 (by omega)]; exact decide_eq_true rfl
    unfold tb at h1
    have h2 : ub (lshl 1 (hp T v + 1)) = 0 := h
    rw [h2, Nat.zero_testBit] at h1
    exact absurd h1 (by decide)
  | k + 1, v => by
    intro h
    have hb := hp_b hw v
    cases hl : lfb T v (2 ^ (k + 1)) with
    | true =>
      rw [fS_leaf hl] at h
      have h1 : tb (lshl 1 (hp T v + 1)) (hp T v + 1).toNat = true := by rw [tb_1 hb.1 (by omega)]; exact decide_eq_true rfl
      unfold tb at h1
      rw [h, Nat.zero_testBit] at h1
      exact absurd h1 (by decide)
    | false =>
      by_cases h2 : land (fS T k v) (fS T k (v + 2 ^ k)) = 0
      · rw [fS_or hl h2, ub_lor] at h
        exact fS_ne hw k v (Nat.or_eq_zero_iff.mp h).1
      · rw [fS_and hl h2] at h
        exact h2 ((ub_0 (land_in _ _).1 (land_in _ _).2).mpr h)
theorem lw_b (hw : tWF T) (k : Nat) (v : Int) : isLow (fS T k v) (lw (fS T k v)) ∧ lw (fS T k v) ≤ 60 ∧ me (fS T k v) ((lw (fS T k v) : Int) - 1) := by
  have h := lw_ok (fS_ne hw k v)
  obtain ⟨a, a0, a1, a2⟩ := fS_me hw k v _ h.2.1
  have hb := hp_b hw a
  refine ⟨h, by omega, ?_⟩
  unfold me
  rw [show ((lw (fS T k v) : Int) - 1 + 1).toNat = lw (fS T k v) by omega]
  exact h.2.1
/-- what is handed on -/
noncomputable def fO (T : TB) (k : Nat) (v x : Int) : Int := if tb (fS T k v) (x + 1).toNat = true then x else (lw (fS T k v) : Int) - 1
noncomputable def fA (T : TB) (k : Nat) (v x : Int) : List (Int × Int × Int) := if tb (fS T k v) (x + 1).toNat = true then [] else [(v, 32 - (k : Int), (lw (fS T k v) : Int) - 1)]
noncomputable def fL (T : TB) : Nat → Int → Int → List (Int × Int × Int)
  | 0, v, x => fA T 0 v x
  | k + 1, v, x => fA T (k + 1) v x ++ if lfb T v (2 ^ (k + 1)) = true then [] else fL T k v (fO T (k + 1) v x) ++ fL T k (v + 2 ^ k) (fO T (k + 1) v x)
/-- how many rules there are of a beginning to which one of its set is handed -/
noncomputable def cc (T : TB) : Nat → Int → Int
  | 0, _ => 0
  | k + 1, v => if lfb T v (2 ^ (k + 1)) = true then 0 else cc T k v + cc T k (v + 2 ^ k) + if land (fS T k v) (fS T k (v + 2 ^ k)) = 0 then 1 else 0
noncomputable def nm (S x : Int) : Int := if tb S (x + 1).toNat = true then 0 else 1
theorem nm_y {S x : Int} (h : me S x) : nm S x = 0 := if_pos h
theorem nm_n {S x : Int} (h : ¬ me S x) : nm S x = 1 := if_neg h
theorem nm_b (S x : Int) : 0 ≤ nm S x ∧ nm S x ≤ 1 := by
  unfold nm
  split <;> omega
theorem fO_me (hw : tWF T) (k : Nat) (v x : Int) : me (fS T k v) (fO T k v x) := by
  unfold fO
  by_cases h : tb (fS T k v) (x + 1).toNat = true
  · rw [if_pos h]; exact h
  · rw [if_neg h]; exact (lw_b hw k v).2.2
theorem fO_b (hw : tWF T) (k : Nat) {v x : Int} (x0 : -1 ≤ x) (x1 : x ≤ 59) : -1 ≤ fO T k v x ∧ fO T k v x ≤ 59 := by
  have := (lw_b hw k v).2.1
  unfold fO
  split <;> omega
theorem fA_len (k : Nat) (v x : Int) : ((fA T k v x).length : Int) = nm (fS T k v) x := by
  unfold fA nm
  split <;> rfl
theorem fL_len (hw : tWF T) : ∀ (k : Nat) (v x : Int), ((fL T k v x).length : Int) = cc T k v + nm (fS T k v) x
  | 0, v, x => by
    show ((fA T 0 v x).length : Int) = 0 + _
    rw [fA_len]; omega
  | k + 1, v, x => by
    show (((fA T (k + 1) v x ++ if lfb T v (2 ^ (k + 1)) = true then [] else fL T k v (fO T (k + 1) v x) ++ fL T k (v + 2 ^ k) (fO T (k + 1) v x))).length : Int) = (if lfb T v (2 ^ (k + 1)) = true then 0 else cc T k v + cc T k (v + 2 ^ k) + if land (fS T k v) (fS T k (v + 2 ^ k)) = 0 then 1 else 0) + _
    rw [List.length_append, Int.natCast_add, fA_len]
    cases hl : lfb T v (2 ^ (k + 1)) with
    | true =>
      rw [if_pos rfl, if_pos rfl]
      show nm _ x + 0 = _
      omega
    | false =>
      rw [if_neg (by decide), if_neg (by decide), List.length_append, Int.natCast_add, fL_len hw k, fL_len hw k]
      have hm := fO_me hw (k + 1) v x
      generalize fO T (k + 1) v x = y at hm ⊢
      by_cases h2 : land (fS T k v) (fS T k (v + 2 ^ k)) = 0
      · rw [if_pos h2]
        rw [fS_or hl h2] at hm
        rcases me_lor.mp hm with h3 | h3
        · rw [nm_y h3, nm_n (fun z => me_0 h2 h3 z)]
          omega
        · rw [nm_y h3, nm_n (fun z => me_0 h2 z h3)]
          omega
      · rw [if_neg h2]
        rw [fS_and hl h2] at hm
        rw [nm_y (me_land.mp hm).1, nm_y (me_land.mp hm).2]
        omega
end FewSets

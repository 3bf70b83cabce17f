/-! WHAT STRIDES COST, in both. -/
def bq (F : Int → Int) (w : Int) : Nat → Int
  | 0 => -1
  | k + 1 => if F (k + 1) % w = 0 then bq F w k else F (k + 1) / w
def bn (F : Int → Int) (w : Int) : Nat → Int
  | 0 => 0
  | k + 1 => bn F w k + one1 (¬ F (k + 1) % w = 0 ∧ ¬ F (k + 1) / w = bq F w k)
theorem bq_s {F : Int → Int} {w i : Int} (i1 : 1 ≤ i) : bq F w i.toNat = if F i % w = 0 then bq F w (i - 1).toNat else F i / w := by
  have e : i.toNat = (i - 1).toNat + 1 := by omega
  have e2 : ((i - 1).toNat : Int) + 1 = i := by omega
  rw [e]
  show (if F (((i - 1).toNat : Int) + 1) % w = 0 then bq F w (i - 1).toNat else F (((i - 1).toNat : Int) + 1) / w) = _
  rw [e2]
theorem bn_s {F : Int → Int} {w i : Int} (i1 : 1 ≤ i) : bn F w i.toNat = bn F w (i - 1).toNat + one1 (¬ F i % w = 0 ∧ ¬ F i / w = bq F w (i - 1).toNat) := by
  have e : i.toNat = (i - 1).toNat + 1 := by omega
  have e2 : ((i - 1).toNat : Int) + 1 = i := by omega
  rw [e]
  show bn F w (i - 1).toNat + one1 (¬ F (((i - 1).toNat : Int) + 1) % w = 0 ∧ ¬ F (((i - 1).toNat : Int) + 1) / w = bq F w (i - 1).toNat) = _
  rw [e2]
theorem bn_b (F : Int → Int) (w : Int) : ∀ k : Nat, 0 ≤ bn F w k ∧ bn F w k ≤ k
  | 0 => ⟨Int.le_refl _, Int.le_refl _⟩
  | k + 1 => by
    have := bn_b F w k
    unfold bn one1
    split <;> omega
theorem bn_cg {F G : Int → Int} {w : Int} : ∀ k : Nat, (∀ i : Int, 0 ≤ i → i ≤ k → F i = G i) → bn F w k = bn G w k ∧ bq F w k = bq G w k
  | 0, _ => ⟨rfl, rfl⟩
  | k + 1, h => by
    obtain ⟨h1, h2⟩ := bn_cg (F := F) (G := G) (w := w) k (fun i i0 i1 => h i i0 (by omega))
    have h3 := h ((k : Int) + 1) (by omega) (by omega)
    constructor
    · show bn F w k + one1 (¬ F (k + 1) % w = 0 ∧ ¬ F (k + 1) / w = bq F w k) = bn G w k + one1 (¬ G (k + 1) % w = 0 ∧ ¬ G (k + 1) / w = bq G w k)
      rw [h1, h2, h3]
    · show (if F (k + 1) % w = 0 then bq F w k else F (k + 1) / w) = if G (k + 1) % w = 0 then bq G w k else G (k + 1) / w
      rw [h2, h3]
/-- how many nodes of so many bits there would be -/
def nA (F : Int → Int) (m b : Int) : Int := if b = 0 then 1 else bn F (wd b) (m - 1).toNat
theorem nA_b {F : Int → Int} {m b : Int} (hm : m ≤ 121) : 0 ≤ nA F m b ∧ nA F m b ≤ 120 := by
  unfold nA
  split
  · omega
  · have := bn_b F (wd b) (m - 1).toNat
    omega
theorem nA_u {T : TB} {m m2 : Int} {F K F2 K2 : Int → Int} (h : isRows T m F K) (h2 : isRows T m2 F2 K2) : nA F m = nA F2 m2 := by
  obtain ⟨e, e2⟩ := isRows_u h h2
  subst e
  funext b
  unfold nA
  rw [(bn_cg (F := F) (G := F2) (w := wd b) (m - 1).toNat (fun i i0 i1 => (e2 i i0 (by have := h.1; omega)).1)).1]
theorem qCosts_partedBeginnings {d : Nat} {M : xM} {Q : xQ} {T : TB} {p b : Int} (hS : SR M p T) (b0 : 0 ≤ b) (b1 : b < 32) (h : Q (xL (bn (M (p + 1)) (wd b) (M p 0 - 1).toNat)) M) : Ru (d + 1) kCosts_partedBeginnings 0 [xO 5 p, xI b, xU, xU, xU, xU, xU, xU, xU, xU, xU, xU, xU] [] M Q := by
  have m1 := hS.1.1
  have m2 := hS.2.1
  refine vCosts_partedBeginnings_0 (qRS_widthOf b0 (by omega) (vCosts_partedBeginnings_11 ?_))
  refine loop_up (M p 0) (P := fun i => ∀ w9 w11 : xV, 1 ≤ i → Ru (d + 1) kCosts_partedBeginnings 16 [xO 5 p, xI b, xL (bn (M (p + 1)) (wd b) (i - 1).toNat), xU, xL (bq (M (p + 1)) (wd b) (i - 1).toNat), xU, xL (wd b), xU, xI i, w9, xU, w11, xU] [] M Q) (fun i hi ih w9 w11 i1 => ?_) 1 m1 _ _ (Int.le_refl _)
  refine vCosts_partedBeginnings_16 ⟨fun q => ?_, fun q => ⟨fun q2 => by omega, fun q2 => ⟨by omega, ?_⟩⟩⟩
  · rw [show M p 0 = i by omega] at h
    exact h
  · have hF := rows_in hS.1 (i := i) (by omega) (by omega)
    have hb := bn_b (M (p + 1)) (wd b) (i - 1).toNat
    have ih' := ih (i + 1) (by omega) (by omega)
    rw [show i + 1 - 1 = i by omega, bn_s i1, bq_s i1] at ih'
    rw [wd_land b0 (by omega), lshr_wd b0 (by omega) ⟨by omega, by omega⟩, z32_id (x := i + 1) (by omega) (by omega)]
    refine ⟨fun q3 => ?_, fun q3 => ⟨fun q4 => ?_, fun q4 => ?_⟩⟩
    · rw [one1_n (fun z => z.1 q3), if_pos q3, Int.add_zero] at ih'
      exact ih' _ _ (by omega)
    · rw [one1_n (fun z => z.2 q4), if_neg q3, Int.add_zero, q4] at ih'
      rw [q4]
      exact ih' _ _ (by omega)
    · rw [one1_p ⟨q3, q4⟩, if_neg q3] at ih'
      rw [z64_id (by omega) (by omega)]
      exact ih' _ _ (by omega)
def lv (w q : Int) : Int := if q = -1 then -1 else w * q
theorem bq_nn {F : Int → Int} {w : Int} (hw : 0 < w) : ∀ k : Nat, (∀ i : Int, 0 ≤ i → i ≤ k → 0 ≤ F i) → -1 ≤ bq F w k
  | 0, _ => Int.le_refl _
  | k + 1, h => by
    have h1 := bq_nn (F := F) hw k (fun i i0 i1 => h i i0 (by omega))
    have h2 := Int.ediv_nonneg (h ((k : Int) + 1) (by omega) (by omega)) (Int.le_of_lt hw)
    unfold bq
    split <;> omega
theorem lv_eq {a w q : Int} (hw : 0 < w) (ha : 0 ≤ a) (hq : -1 ≤ q) : a - a % w = lv w q ↔ a / w = q := by
  have h1 := Int.emod_add_mul_ediv a w
  have h2 := Int.ediv_nonneg ha (Int.le_of_lt hw)
  unfold lv
  by_cases e : q = -1
  · rw [if_pos e]
    constructor
    · intro h
      have : 0 ≤ w * (a / w) := Int.mul_nonneg (by omega) h2
      omega
    · intro h; omega
  · rw [if_neg e]
    constructor
    · intro h
      exact Int.eq_of_mul_eq_mul_left (Int.ne_of_gt hw) (by omega)
    · intro h
      rw [← h]; omega
theorem qMo_nodesOf {d : Nat} {M : xM} {Q : xQ} {T : TB} {r b : Int} (hR : RW M r 0 T) (b0 : 0 ≤ b) (b1 : b ≤ 32) (h : Q (xI (nA (M (r + 6)) (M (r + 5) 0) b)) M) : Ru (d + 1) kMo_nodesOf 0 [xO 9 r, xI b, xU, xU, xU, xU, xU, xU, xU, xU] [] M Q := by
  have eF : (fun i => M (r + 6) (124 * 0 + i)) = M (r + 6) := funext fun i => by rw [show (124 : Int) * 0 + i = i by omega]
  have hr := hR.1
  rw [eF] at hr
  have m1 := hr.1
  have m2 := hR.2.1
  have hwp := wd_pos b
  have hwl := wd_le b0
  unfold nA at h
  refine vMo_nodesOf_0 ⟨fun q0 => ?_, fun q0 => ?_⟩
  · rw [if_neg q0] at h
    refine qMo_sizeOf b0 b1 (vMo_nodesOf_10 ?_)
    refine loop_up (M (r + 5) 0) (P := fun i => ∀ w8 : xV, 1 ≤ i → Ru (d + 1) kMo_nodesOf 22 [xO 9 r, xI b, xL (wd b), xU, xL (lv (wd b) (bq (M (r + 6)) (wd b) (i - 1).toNat)), xU, xI (bn (M (r + 6)) (wd b) (i - 1).toNat), xI i, w8, xU] [] M Q) (fun i hi ih w8 i1 => ?_) 1 m1 _ (Int.le_refl _)
    refine vMo_nodesOf_22 ⟨by decide, fun q => ?_, fun q => ⟨by omega, Int.ne_of_gt hwp, ?_⟩⟩
    · rw [show M (r + 5) 0 = i by omega] at h
      exact h
    · have hF := rows_in hr (i := i) (by omega) (by omega)
      have hb := bn_b (M (r + 6)) (wd b) (i - 1).toNat
      have hq := bq_nn (F := M (r + 6)) hwp (i - 1).toNat (fun j j0 j1 => (rows_in hr j0 (by omega)).1)
      have ih' := ih (i + 1) (by omega) (by omega)
      have hmod := Int.emod_nonneg (M (r + 6) i) (Int.ne_of_gt hwp)
      have hmod2 := Int.emod_lt_of_pos (M (r + 6) i) hwp
      have hle := lv_eq hwp hF.1 hq
      rw [show i + 1 - 1 = i by omega, bn_s i1, bq_s i1] at ih'
      rw [wd_lrem hF.1 (by omega) b0, z32_id (x := i + 1) (by omega) (by omega), z64_id (by omega) (by omega)]
      refine ⟨fun q3 => ?_, fun q3 => ⟨by omega, fun q4 => ⟨by omega, ?_⟩, fun q4 => ?_⟩⟩
      · rw [one1_n (fun z => z.1 q3), if_pos q3, Int.add_zero] at ih'
        exact ih' _ (by omega)
      · rw [one1_p ⟨q3, fun z => q4 (hle.mpr z)⟩, if_neg q3] at ih'
        rw [z32_id (by omega) (by omega)]
        have e5 : lv (wd b) (M (r + 6) i / wd b) = M (r + 6) i - M (r + 6) i % wd b := ((lv_eq hwp hF.1 (by have := Int.ediv_nonneg hF.1 (Int.le_of_lt hwp); omega)).mpr rfl).symm
        rw [e5] at ih'
        exact ih' _ (by omega)
      · have q5 := hle.mp (Classical.not_not.mp q4)
        rw [one1_n (fun z => z.2 q5), if_neg q3, Int.add_zero, q5] at ih'
        exact ih' _ (by omega)
  · rw [if_pos (Classical.not_not.mp q0)] at h
    exact h

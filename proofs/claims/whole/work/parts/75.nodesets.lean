/-! NODES: which there are, how many. -/
def NDT (T : TB) (b x : Int) : Prop := (0 ≤ x ∧ x < 4294967296) ∧ x % wd b = 0 ∧ ¬ lfp T x (wd b)
/-- inside a beginning that has not one way a rule begins -/
theorem nd_rule {T : TB} (hw : tWF T) {x b : Int} (b0 : 0 ≤ b) (h : NDT T b x) : ∃ j : Int, 0 ≤ j ∧ j < tN T ∧ x ≤ tV T j ∧ tV T j < x + wd b := by
  have hn := hw.1
  obtain ⟨hx, hm, hl⟩ := h
  refine Classical.byContradiction fun hc => hl (fun a a0 a1 => ?_)
  unfold cod
  have : rl T a = rl T x := by
    refine rlB_cg (fun j j0 j1 => ?_)
    obtain ⟨hv, hlj, hmj, -⟩ := hw.2.1 j j0 (by omega)
    have wj := wd_pos (tL T j)
    have wb := wd_pos b
    constructor
    · intro hi
      refine ⟨Classical.byContradiction fun hq => hc ⟨j, j0, by omega, by omega, by have := hi.1; omega⟩, by have := hi.2; omega⟩
    · intro hi
      refine ⟨by have := hi.1; omega, Classical.byContradiction fun hq => ?_⟩
      -- the rule ends inside
      have e1 := hi.1
      have e2 := hi.2
      by_cases hL : tL T j ≤ b
      · have h1 : wd b ∣ tV T j + wd (tL T j) := Int.dvd_add (Int.dvd_trans (wd_dvd hL) (Int.dvd_of_emod_eq_zero hmj)) (wd_dvd hL)
        have h2 := Int.dvd_sub h1 (Int.dvd_of_emod_eq_zero hm)
        have := Int.le_of_dvd (by omega) h2
        omega
      · have h1 : wd (tL T j) ∣ x := Int.dvd_trans (wd_dvd (by omega)) (Int.dvd_of_emod_eq_zero hm)
        have h2 := Int.dvd_sub h1 (Int.dvd_of_emod_eq_zero hmj)
        have h3 : x = tV T j := Classical.byContradiction fun hz => by
          have := Int.le_of_dvd (by omega) h2
          omega
        exact hc ⟨j, j0, by omega, by omega, by omega⟩
  rw [this]
/-- rules that begin below x -/
def cR (T : TB) (x : Int) : Nat → Int
  | 0 => 0
  | k + 1 => cR T x k + one1 (tV T k < x)
theorem cR_b (T : TB) (x : Int) : ∀ k : Nat, 0 ≤ cR T x k ∧ cR T x k ≤ k
  | 0 => ⟨Int.le_refl _, Int.le_refl _⟩
  | k + 1 => by
    have := cR_b T x k
    unfold cR one1
    split <;> omega
theorem cR_mono {T : TB} {x y : Int} (h : x ≤ y) : ∀ k : Nat, cR T x k ≤ cR T y k
  | 0 => Int.le_refl _
  | k + 1 => by
    have := cR_mono (T := T) h k
    unfold cR one1
    split <;> split <;> omega
theorem cR_lt {T : TB} {x y j : Int} (h : x ≤ y) (j0 : 0 ≤ j) (jx : x ≤ tV T j) (jy : tV T j < y) : ∀ k : Nat, j < k → cR T x k + 1 ≤ cR T y k
  | 0, hk => by omega
  | k + 1, hk => by
    by_cases e : j = k
    · have := cR_mono (T := T) h k
      unfold cR
      rw [← e, one1_n (by omega), one1_p jy]
      omega
    · have := cR_lt (T := T) h j0 jx jy k (by omega)
      unfold cR one1
      split <;> split <;> omega
def cr (T : TB) (x : Int) : Int := cR T x (tN T).toNat
theorem cr_b {T : TB} (hw : tWF T) (x : Int) : 0 ≤ cr T x ∧ cr T x ≤ 60 := by
  have := cR_b T x (tN T).toNat
  have := hw.1
  unfold cr
  omega
theorem cr_mono {T : TB} {x y : Int} (h : x ≤ y) : cr T x ≤ cr T y := cR_mono h _
theorem cr_lt {T : TB} (hw : tWF T) {x b : Int} (b0 : 0 ≤ b) (h : NDT T b x) : cr T x + 1 ≤ cr T (x + wd b) := by
  obtain ⟨j, j0, j1, j2, j3⟩ := nd_rule hw b0 h
  have := wd_pos b
  exact cR_lt (by omega) j0 j2 j3 _ (by omega)
/-- slots that lead on are no more than rules -/
theorem nK_cr {T : TB} (hw : tWF T) {v b : Int} (b0 : 0 ≤ b) (v0 : 0 ≤ v) (hm : v % wd b = 0) : ∀ q : Nat, v + q * wd b ≤ 4294967296 → nK T v (wd b) q + cr T v ≤ cr T (v + q * wd b)
  | 0, _ => by
    have e : v + ((0 : Nat) : Int) * wd b = v := by simp
    rw [e]
    show 0 + _ ≤ _
    omega
  | q + 1, h => by
    have wp := wd_pos b
    have e : v + ((q + 1 : Nat) : Int) * wd b = v + q * wd b + wd b := by
      rw [show ((q + 1 : Nat) : Int) = (q : Int) + 1 by omega, Int.add_mul, Int.one_mul]
      omega
    have ih := nK_cr hw b0 v0 hm q (by omega)
    have mono := cr_mono (T := T) (x := v + q * wd b) (y := v + q * wd b + wd b) (by omega)
    rw [e]
    cases hl : lfb T (v + q * wd b) (wd b) with
    | true => rw [nK_y hl]; omega
    | false =>
      rw [nK_n hl]
      have hnn := qz_nn (q := (q : Int)) (z := wd b) (by omega) wp
      have hN : NDT T b (v + q * wd b) := ⟨⟨by omega, by omega⟩, by rw [Int.add_mul_emod_self_right]; exact hm, fun w => by rw [lfb_t w] at hl; cases hl⟩
      have := cr_lt hw b0 hN
      omega
theorem nK_surj {T : TB} {v z : Int} : ∀ (P : Nat) (t : Int), 0 ≤ t → t < nK T v z P → ∃ k : Nat, k < P ∧ lfb T (v + k * z) z = false ∧ nK T v z k = t
  | 0, t, t0, t1 => absurd t1 (by show ¬ t < 0; omega)
  | P + 1, t, t0, t1 => by
    cases hl : lfb T (v + P * z) z with
    | true =>
      rw [nK_y hl] at t1
      obtain ⟨k, k0, k1, k2⟩ := nK_surj P t t0 t1
      exact ⟨k, by omega, k1, k2⟩
    | false =>
      rw [nK_n hl] at t1
      by_cases e : t = nK T v z P
      · exact ⟨P, by omega, hl, e.symm⟩
      · obtain ⟨k, k0, k1, k2⟩ := nK_surj (T := T) (v := v) (z := z) P t t0 (by omega)
        exact ⟨k, by omega, k1, k2⟩
theorem seqS_app {f : Int → Int} {lo c hi : Int} {S S2 : Int → Prop} (h1 : seqS f lo c S) (h2 : seqS f c hi S2) (lt : ∀ x y : Int, S x → S2 y → x < y) : seqS f lo hi (fun x => S x ∨ S2 x) := by
  have a0 := h1.1
  have b0 := h2.1
  refine ⟨by omega, fun i j i0 ij j1 => ?_, fun i i0 i1 => ?_, fun x hx => ?_⟩
  · rcases (show j < c ∨ c ≤ j by omega) with u | u
    · exact h1.2.1 i j i0 ij u
    · rcases (show i < c ∨ c ≤ i by omega) with w | w
      · exact lt _ _ (h1.2.2.1 i i0 w) (h2.2.2.1 j u j1)
      · exact h2.2.1 i j w ij j1
  · rcases (show i < c ∨ c ≤ i by omega) with w | w
    · exact Or.inl (h1.2.2.1 i i0 w)
    · exact Or.inr (h2.2.2.1 i w i1)
  · rcases hx with hx | hx
    · obtain ⟨i, i0, i1, i2⟩ := h1.2.2.2 x hx
      exact ⟨i, i0, by omega, i2⟩
    · obtain ⟨i, i0, i1, i2⟩ := h2.2.2.2 x hx
      exact ⟨i, by omega, i1, i2⟩
/-- the children of a node, in their row -/
theorem kids {T : TB} {N : xM} {p c l n v z W : Int} {P : Nat} (zp : 0 < z) (v0 : 0 ≤ v) (vW : v + W ≤ 4294967296) (hW : W = P * z) (hm : v % z = 0) (hch : ∀ q : Nat, q < P → lfb T (v + q * z) z = false → N (p + 1) (c + nK T v z q) = v + q * z ∧ N (p + 2) (c + nK T v z q) = l ∧ N (p + 5) (c + nK T v z q) = n) : seqS (N (p + 1)) c (c + nK T v z P) (fun x => x % z = 0 ∧ ¬ lfp T x z ∧ v ≤ x ∧ x < v + W) ∧ ∀ j : Int, c ≤ j → j < c + nK T v z P → N (p + 2) j = l ∧ N (p + 5) j = n := by
  have kb := nK_b T v z P
  have key : ∀ j : Int, c ≤ j → j < c + nK T v z P → ∃ k : Nat, k < P ∧ lfb T (v + k * z) z = false ∧ j = c + nK T v z k ∧ N (p + 1) j = v + k * z ∧ N (p + 2) j = l ∧ N (p + 5) j = n := by
    intro j j0 j1
    obtain ⟨k, k0, k1, k2⟩ := nK_surj (T := T) (v := v) (z := z) P (j - c) (by omega) (by omega)
    have e : j = c + nK T v z k := by omega
    rw [e]
    exact ⟨k, k0, k1, rfl, hch k k0 k1⟩
  refine ⟨⟨by omega, fun i j i0 ij j1 => ?_, fun i i0 i1 => ?_, fun x hx => ?_⟩, fun j j0 j1 => ?_⟩
  · obtain ⟨k, k0, k1, k2, k3, -⟩ := key i i0 (by omega)
    obtain ⟨m, m0, m1, m2, m3, -⟩ := key j (by omega) j1
    rw [k3, m3]
    have hkm : k < m := Classical.byContradiction fun hc => by
      have := nK_mono (T := T) (v := v) (z := z) (j := m) (k := k) (by omega)
      omega
    have := qz_le (q := (k : Int)) (n := (m : Int)) (by omega) zp
    omega
  · obtain ⟨k, k0, k1, k2, k3, -⟩ := key i i0 i1
    rw [k3]
    have h1 := qz_le (q := (k : Int)) (n := (P : Int)) (by omega) zp
    have h2 := qz_nn (q := (k : Int)) (by omega) zp
    refine ⟨by rw [Int.add_mul_emod_self_right]; exact hm, (fun w => by rw [lfb_t w] at k1; cases k1), by omega, by omega⟩
  · obtain ⟨x1, x2, x3, x4⟩ := hx
    obtain ⟨q, hq⟩ := Int.dvd_sub (Int.dvd_of_emod_eq_zero x1) (Int.dvd_of_emod_eq_zero hm)
    have hqz : z * q = q * z := Int.mul_comm _ _
    have q0 : 0 ≤ q := Classical.byContradiction fun hc => by
      have := qz_le (q := q) (n := 0) (by omega) zp
      rw [Int.zero_mul] at this
      omega
    have qP : q < P := Classical.byContradiction fun hc => by
      have := Int.mul_le_mul_of_nonneg_right (show (P : Int) ≤ q by omega) (Int.le_of_lt zp)
      omega
    obtain ⟨k, rfl⟩ := nat_of q0
    have ex : x = v + k * z := by omega
    have hlf : lfb T (v + k * z) z = false := lfb_f (by rw [← ex]; exact x2)
    have h3 := hch k (by omega) hlf
    have h4 := nK_mono (T := T) (v := v) (z := z) (j := k + 1) (k := P) (by omega)
    rw [nK_n hlf] at h4
    have h5 := nK_b T v z k
    exact ⟨c + nK T v z k, by omega, by omega, by rw [ex]; exact h3.1⟩
  · obtain ⟨k, k0, k1, k2, k3, k4, k5⟩ := key j j0 j1
    exact ⟨k4, k5⟩
theorem NDT_32 {T : TB} {x : Int} : ¬ NDT T 32 x := fun h => h.2.2 (fun a a0 a1 => by rw [wd_32] at a1; rw [show a = x by omega])
/-- a beginning that has not one way lies in one that has not -/
theorem NDT_up {T : TB} {b c x : Int} (b0 : 0 ≤ b) (bc : b ≤ c) (h : NDT T c x) : NDT T b (x - x % wd b) ∧ x - x % wd b ≤ x ∧ x < x - x % wd b + wd b := by
  obtain ⟨hx, hm, hl⟩ := h
  have wb := wd_pos b
  have wc := wd_pos c
  have h1 := Int.emod_nonneg x (show wd b ≠ 0 by omega)
  have h2 := Int.emod_lt_of_pos x wb
  have h3 : 0 ≤ x - x % wd b := by
    have := Int.emod_add_mul_ediv x (wd b)
    have := Int.mul_nonneg (Int.le_of_lt wb) (Int.ediv_nonneg hx.1 (Int.le_of_lt wb))
    omega
  refine ⟨⟨⟨h3, by omega⟩, mod_sub, fun hc => hl (fun a a0 a1 => ?_)⟩, by omega, by omega⟩
  -- the end of the smaller is no later
  have hd : wd c ∣ wd b := wd_dvd bc
  have hd2 : wd c ∣ x - x % wd b := Int.dvd_trans hd (Int.dvd_of_emod_eq_zero mod_sub)
  have hd3 : wd c ∣ (x - x % wd b + wd b) - x := Int.dvd_sub (Int.dvd_add hd2 hd) (Int.dvd_of_emod_eq_zero hm)
  have h4 := Int.le_of_dvd (by omega) hd3
  rw [hc a (by omega) (by omega), hc x (by omega) (by omega)]
/-- the same set, by rows -/
theorem ND_T {T : TB} {m : Int} {F K : Int → Int} (h : isRows T m F K) {b x : Int} (b0 : 0 ≤ b) (b1 : b ≤ 32) : ND F m b x ↔ NDT T b x := by
  have wp := wd_pos b
  have wl := wd_le b0
  have hd0 : wd b ∣ 4294967296 := by rw [← wd_0]; exact wd_dvd b0
  constructor
  · rintro ⟨hm, k, k0, k1, k2, k3⟩
    have hin := rows_in h (i := k) (by omega) k1
    have x0 : 0 ≤ x := Classical.byContradiction fun hc => by
      have := Int.le_of_dvd (by omega) (Int.dvd_neg.mpr (Int.dvd_of_emod_eq_zero hm))
      omega
    refine ⟨⟨x0, by omega⟩, hm, fun hl => ?_⟩
    have e1 := h.2.2.2.1 k (by omega) k1 (F k) (Int.le_refl _) (h.2.2.1 k (by omega) k1)
    have l1 := h.2.2.1 (k - 1) (by omega) (by omega)
    rw [nxF_in (by omega), show k - 1 + 1 = k by omega] at l1
    -- the address ahead of the row's first
    have e2 : cod T (F k - 1) = K (k - 1) := h.2.2.2.1 (k - 1) (by omega) (by omega) (F k - 1) (by omega) (by rw [nxF_in (by omega), show k - 1 + 1 = k by omega]; omega)
    have e3 := hl (F k) (by omega) k3
    have e4 := hl (F k - 1) (by omega) (by omega)
    have := h.2.2.2.2 (k - 1) (by omega) (by omega)
    rw [show k - 1 + 1 = k by omega] at this
    exact this (e2.symm.trans (e4.trans (e3.symm.trans e1)))
  · rintro ⟨hx, hm, hl⟩
    have hend : x + wd b ≤ 4294967296 := by
      have := Int.le_of_dvd (by omega) (Int.dvd_sub hd0 (Int.dvd_of_emod_eq_zero hm))
      omega
    refine ⟨hm, Classical.byContradiction fun hc => hl ?_⟩
    -- the row that has x
    obtain ⟨i, i0, i1, i2, i3⟩ : ∃ i : Int, 0 ≤ i ∧ i < m ∧ F i ≤ x ∧ x < nxF F m i := by
      refine Classical.byContradiction fun hno => ?_
      have up : ∀ n : Nat, (n : Int) < m → F n ≤ x := by
        intro n
        induction n with
        | zero => intro _; have := h.2.1; show F 0 ≤ x; omega
        | succ n ih =>
          intro hn
          refine Classical.byContradiction fun hq => hno ⟨n, by omega, by omega, ih (by omega), ?_⟩
          rw [nxF_in (by omega)]
          have e : ((n + 1 : Nat) : Int) = (n : Int) + 1 := by omega
          rw [e] at hq
          omega
      have hm1 := h.1
      have := up (m - 1).toNat (by omega)
      rw [show (((m - 1).toNat : Nat) : Int) = m - 1 by omega] at this
      exact hno ⟨m - 1, by omega, by omega, this, by rw [nxF_end (by omega)]; exact hx.2⟩
    refine (lfp_rows h i0 i1 i2 i3 wp hend).mpr (Classical.byContradiction fun hq => ?_)
    by_cases e : i + 1 < m
    · rw [nxF_in e] at hq i3
      exact hc ⟨i + 1, by omega, e, by omega, by omega⟩
    · rw [nxF_end e] at hq; omega

/-! ROWS: which rule serves an address; addresses of one code. -/
abbrev inR (T : TB) (k a : Int) : Prop := tV T k ≤ a ∧ a < tV T k + wd (tL T k)
theorem blk {v w a : Int} (hv : v % w = 0) (h0 : v ≤ a) (h1 : a < v + w) : a % w = a - v := by
  have hd := Int.dvd_of_emod_eq_zero hv
  obtain ⟨q, rfl⟩ := hd
  have e : a = (a - w * q) + w * q := by omega
  rw [e, Int.add_mul_emod_self_left, Int.emod_eq_of_lt (by omega) (by omega)]
  omega
theorem dvd_le {a v w : Int} (hw : 0 < w) (hd : w ∣ v) (ha : 0 ≤ a) : a % w ≤ a % v ∨ v = 0 := by
  by_cases hz : v = 0
  · exact Or.inr hz
  · left
    rw [← Int.emod_emod_of_dvd a hd]
    have h1 := Int.emod_nonneg a hz
    have h2 := Int.emod_add_mul_ediv (a % v) w
    have h3 := Int.mul_nonneg (Int.le_of_lt hw) (Int.ediv_nonneg h1 (Int.le_of_lt hw))
    omega
theorem nest {T : TB} (hw : tWF T) {i j a : Int} (i0 : 0 ≤ i) (ij : i < j) (j1 : j < tN T) (hi : inR T i a) (hj : inR T j a) : tL T i < tL T j ∧ tV T i ≤ tV T j ∧ tV T j + wd (tL T j) ≤ tV T i + wd (tL T i) := by
  obtain ⟨a1, a2, a3, -⟩ := hw.2.1 i i0 (by omega)
  obtain ⟨b1, b2, b3, -⟩ := hw.2.1 j (by omega) j1
  have hs := hw.2.2.1 i j i0 ij j1
  have pi := wd_pos (tL T i)
  have pj := wd_pos (tL T j)
  have ei := blk a3 hi.1 hi.2
  have ej := blk b3 hj.1 hj.2
  have hL : tL T i < tL T j := by
    refine Classical.byContradiction fun hc => ?_
    have hd := wd_dvd (m := tL T j) (n := tL T i) (by omega)
    rcases dvd_le (a := a) pi hd (by omega) with h | h
    · omega
    · omega
  have hd := wd_dvd (m := tL T i) (n := tL T j) (by omega)
  refine ⟨hL, by omega, ?_⟩
  -- the end: both ends are multiples of the smaller width
  have h1 : wd (tL T j) ∣ tV T i + wd (tL T i) := Int.dvd_add (Int.dvd_trans hd (Int.dvd_of_emod_eq_zero a3)) hd
  have h2 : wd (tL T j) ∣ tV T j := Int.dvd_of_emod_eq_zero b3
  have h3 : wd (tL T j) ∣ tV T i + wd (tL T i) - tV T j := Int.dvd_sub h1 h2
  have h4 : 0 < tV T i + wd (tL T i) - tV T j := by omega
  have := Int.le_of_dvd h4 h3
  omega
/-- the last rule below k that has an address, but for one -/
def rlB (T : TB) (a b : Int) : Nat → Int
  | 0 => -1
  | k + 1 => if inR T k a ∧ ¬ (k : Int) = b then (k : Int) else rlB T a b k
def rl (T : TB) (a : Int) : Int := rlB T a (-1) (tN T).toNat
/-- a rule's code -/
def cd (T : TB) (k : Int) : Int := if k = -1 then -1 else tK T (tH T k)
def cod (T : TB) (a : Int) : Int := cd T (rl T a)
theorem rlB_in (T : TB) (a b : Int) : ∀ n : Nat, -1 ≤ rlB T a b n ∧ rlB T a b n < n ∧ (0 ≤ rlB T a b n → inR T (rlB T a b n) a ∧ ¬ rlB T a b n = b)
  | 0 => ⟨Int.le_refl _, by unfold rlB; omega, fun h => absurd h (by unfold rlB; omega)⟩
  | n + 1 => by
    have ih := rlB_in T a b n
    unfold rlB
    by_cases e : inR T n a ∧ ¬ (n : Int) = b
    · rw [if_pos e]
      exact ⟨by omega, by omega, fun _ => e⟩
    · rw [if_neg e]
      exact ⟨ih.1, by omega, ih.2.2⟩
theorem rlB_mx {T : TB} {a b : Int} : ∀ {n : Nat} {j : Int}, 0 ≤ j → j < n → inR T j a → ¬ j = b → j ≤ rlB T a b n
  | 0, j, h0, h1, _, _ => by omega
  | n + 1, j, h0, h1, hi, hb => by
    unfold rlB
    by_cases e : inR T n a ∧ ¬ (n : Int) = b
    · rw [if_pos e]; omega
    · rw [if_neg e]
      by_cases ej : j = n
      · subst ej; exact absurd ⟨hi, hb⟩ e
      · exact rlB_mx h0 (by omega) hi hb
/-- what the last rule is -/
theorem rlB_eq {T : TB} {a b k : Int} {n : Nat} (k0 : 0 ≤ k) (k1 : k < n) (hk : inR T k a) (hb : ¬ k = b) (hm : ∀ j : Int, k < j → j < n → inR T j a → j = b) : rlB T a b n = k := by
  have h1 := rlB_in T a b n
  have h2 := rlB_mx k0 k1 hk hb
  rcases (show rlB T a b n = k ∨ k < rlB T a b n by omega) with e | e
  · exact e
  · have h3 := h1.2.2 (by omega)
    exact absurd (hm _ e h1.2.1 h3.1) h3.2
theorem rlB_no {T : TB} {a b : Int} {n : Nat} (hm : ∀ j : Int, 0 ≤ j → j < n → inR T j a → j = b) : rlB T a b n = -1 := by
  have h1 := rlB_in T a b n
  rcases (show rlB T a b n = -1 ∨ 0 ≤ rlB T a b n by omega) with e | e
  · exact e
  · have h3 := h1.2.2 e
    exact absurd (hm _ e h1.2.1 h3.1) h3.2
theorem rlB_cg {T : TB} {a a2 b : Int} : ∀ {n : Nat}, (∀ j : Int, 0 ≤ j → j < n → (inR T j a ↔ inR T j a2)) → rlB T a b n = rlB T a2 b n
  | 0, _ => rfl
  | n + 1, h => by
    have h1 := h n (by omega) (by omega)
    have ih := rlB_cg (T := T) (a := a) (a2 := a2) (b := b) (n := n) (fun j j0 j1 => h j j0 (by omega))
    unfold rlB
    rw [ih]
    by_cases e : inR T n a ∧ ¬ (n : Int) = b
    · rw [if_pos e, if_pos ⟨h1.mp e.1, e.2⟩]
    · rw [if_neg e, if_neg (fun z => e ⟨h1.mpr z.1, z.2⟩)]
theorem rl_in {T : TB} (hw : tWF T) (a : Int) : -1 ≤ rl T a ∧ rl T a < tN T ∧ (0 ≤ rl T a → inR T (rl T a) a) := by
  have h1 := rlB_in T a (-1) (tN T).toNat
  have h2 := hw.1
  unfold rl
  exact ⟨h1.1, by omega, fun z => (h1.2.2 z).1⟩
def nxF (F : Int → Int) (m i : Int) : Int := if i + 1 < m then F (i + 1) else 4294967296
/-- rows: where they begin, their codes -/
def isRows (T : TB) (m : Int) (F K : Int → Int) : Prop := 1 ≤ m ∧ F 0 = 0 ∧ (∀ i : Int, 0 ≤ i → i < m → F i < nxF F m i) ∧ (∀ i : Int, 0 ≤ i → i < m → ∀ a : Int, F i ≤ a → a < nxF F m i → cod T a = K i) ∧ ∀ i : Int, 0 ≤ i → i + 1 < m → ¬ K i = K (i + 1)
theorem nxF_in {F : Int → Int} {m i : Int} (h : i + 1 < m) : nxF F m i = F (i + 1) := if_pos h
theorem nxF_end {F : Int → Int} {m i : Int} (h : ¬ i + 1 < m) : nxF F m i = 4294967296 := if_neg h
theorem isRows_step {T : TB} {m m2 : Int} {F K F2 K2 : Int → Int} (h : isRows T m F K) (h2 : isRows T m2 F2 K2) {i : Int} (i0 : 0 ≤ i) (i1 : i < m) (i2 : i < m2) (e : F i = F2 i) : K i = K2 i ∧ (i + 1 < m → i + 1 < m2 ∧ F (i + 1) = F2 (i + 1)) := by
  obtain ⟨-, -, a3, a4, a5⟩ := h
  obtain ⟨-, -, b3, b4, b5⟩ := h2
  have l1 := a3 i i0 i1
  have l2 := b3 i i0 i2
  have ek : K i = K2 i := (a4 i i0 i1 (F i) (Int.le_refl _) l1).symm.trans (b4 i i0 i2 (F i) (by omega) (by omega))
  refine ⟨ek, fun im => ?_⟩
  have n1 := nxF_in (F := F) im
  have l3 := a3 (i + 1) (by omega) im
  have key : nxF F2 m2 i ≤ F (i + 1) := by
    refine Classical.byContradiction fun hc => ?_
    have h1 := b4 i i0 i2 (F (i + 1)) (by omega) (by omega)
    have h3 := a4 (i + 1) (by omega) im (F (i + 1)) (Int.le_refl _) l3
    exact a5 i i0 im (ek.trans (h1.symm.trans h3))
  have im2 : i + 1 < m2 := by
    refine Classical.byContradiction fun hc => ?_
    rw [nxF_end hc] at key
    have : nxF F m (i + 1) ≤ 4294967296 := by
      refine Classical.byContradiction fun hc2 => ?_
      by_cases hq : i + 1 + 1 < m
      · -- the rows go on above all addresses: their beginnings rise to the last one
        have up : ∀ j : Int, j ≤ m - 1 → i + 1 ≤ j → 4294967296 ≤ F j → False := by
          intro j hj
          refine loop_up (m - 1) (P := fun j => i + 1 ≤ j → 4294967296 ≤ F j → False) (fun j hj ihj j0 hf => ?_) j hj
          have l := a3 j (by omega) (by omega)
          by_cases hjm : j + 1 < m
          · rw [nxF_in hjm] at l
            exact ihj (j + 1) (by omega) (by omega) (by omega) (by omega)
          · rw [nxF_end hjm] at l
            omega
        exact up (i + 1) (by omega) (Int.le_refl _) key
      · rw [nxF_end hq] at hc2
        omega
    omega
  refine ⟨im2, ?_⟩
  have n2 := nxF_in (F := F2) im2
  rw [n2] at key
  rcases (show F (i + 1) = F2 (i + 1) ∨ F2 (i + 1) < F (i + 1) by omega) with q | q
  · exact q
  · exfalso
    have l4 := b3 (i + 1) (by omega) im2
    have h1 := a4 i i0 i1 (F2 (i + 1)) (by omega) (by omega)
    have h3 := b4 (i + 1) (by omega) im2 (F2 (i + 1)) (Int.le_refl _) l4
    exact b5 i i0 im2 (ek.symm.trans (h1.symm.trans h3))
theorem isRows_u {T : TB} {m m2 : Int} {F K F2 K2 : Int → Int} (h : isRows T m F K) (h2 : isRows T m2 F2 K2) : m = m2 ∧ ∀ i : Int, 0 ≤ i → i < m → F i = F2 i ∧ K i = K2 i := by
  have go : ∀ {m m2 : Int} {F K F2 K2 : Int → Int}, isRows T m F K → isRows T m2 F2 K2 → ∀ n : Nat, (n : Int) < m → (n : Int) < m2 ∧ F n = F2 n := by
    intro m m2 F K F2 K2 h h2 n
    induction n with
    | zero => exact fun _ => ⟨by have := h2.1; omega, h.2.1.trans h2.2.1.symm⟩
    | succ n ih =>
      intro hn
      obtain ⟨a, b⟩ := ih (by omega)
      have := (isRows_step h h2 (i := n) (by omega) (by omega) a b).2 (by omega)
      exact this
  have le1 : m ≤ m2 := by
    refine Classical.byContradiction fun hc => ?_
    have h0 := h2.1
    have := (go h h2 m2.toNat (by omega)).1
    omega
  have le2 : m2 ≤ m := by
    refine Classical.byContradiction fun hc => ?_
    have h0 := h.1
    have := (go h2 h m.toNat (by omega)).1
    omega
  refine ⟨by omega, fun i i0 i1 => ?_⟩
  obtain ⟨n, rfl⟩ := nat_of i0
  obtain ⟨a, b⟩ := go h h2 n i1
  exact ⟨b, (isRows_step h h2 i0 i1 a b).1⟩

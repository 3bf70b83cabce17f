/-! ROWS AND NODES in the reference. -/
theorem tB_s (S : Int → Int) {l : Int} (l0 : 0 ≤ l) : tB S (l + 1).toNat = tB S l.toNat + S l := by
  rw [show (l + 1).toNat = l.toNat + 1 by omega]
  show tB S l.toNat + S ((l.toNat : Nat) : Int) = _
  rw [Int.toNat_of_nonneg l0]
theorem tB_lo {T : TB} (hw : tWF T) : ∀ l : Nat, (l : Int) ≤ tZ T → 2 * (l : Int) ≤ tB (tS T) l
  | 0, _ => Int.le_refl _
  | l + 1, h => by
    have ih := tB_lo hw l (by omega)
    have hs := (hw.2.2.2.2.2.2.1 l (by omega) (by omega)).1
    show _ ≤ tB (tS T) l + tS T l
    omega
theorem tB_hi {T : TB} (hw : tWF T) {l : Int} (l0 : 0 ≤ l) (l1 : l ≤ tZ T) : 2 * l ≤ tB (tS T) l.toNat ∧ tB (tS T) l.toNat + 2 * (tZ T - l) ≤ 32 := by
  have h0 := tB_lo hw l.toNat (by omega)
  refine ⟨by omega, ?_⟩
  refine loop_up (tZ T) (P := fun l => 0 ≤ l → tB (tS T) l.toNat + 2 * (tZ T - l) ≤ 32) (fun i hi ih i0 => ?_) l l1 l0
  by_cases e : i = tZ T
  · rw [e, hw.2.2.2.2.2.2.2]; omega
  · have h1 := ih (i + 1) (by omega) (by omega) (by omega)
    rw [tB_s _ i0] at h1
    have := (hw.2.2.2.2.2.2.1 i i0 (by omega)).1
    omega
theorem tB_mono {T : TB} (hw : tWF T) {l k : Int} (l0 : 0 ≤ l) (lk : l ≤ k) (k1 : k ≤ tZ T) : tB (tS T) l.toNat + 2 * (k - l) ≤ tB (tS T) k.toNat := by
  refine loop_up k (P := fun l => 0 ≤ l → tB (tS T) l.toNat + 2 * (k - l) ≤ tB (tS T) k.toNat) (fun i hi ih i0 => ?_) l lk l0
  by_cases e : i = k
  · rw [e]; omega
  · have h1 := ih (i + 1) (by omega) (by omega) (by omega)
    rw [tB_s _ i0] at h1
    have := (hw.2.2.2.2.2.2.1 i i0 (by omega)).1
    omega
theorem rows_lt {T : TB} {m : Int} {F K : Int → Int} (h : isRows T m F K) {i j : Int} (i0 : 0 ≤ i) (ij : i < j) (j1 : j < m) : F i < F j := by
  have h3 := h.2.2.1
  refine loop_dn (i + 1) (P := fun j => j < m → F i < F j) (fun j hj ih j1 => ?_) j (by omega) j1
  have h4 := h3 (j - 1) (by omega) (by omega)
  rw [nxF_in (by omega), show j - 1 + 1 = j by omega] at h4
  by_cases e : j = i + 1
  · rw [show j - 1 = i by omega] at h4; exact h4
  · have := ih (j - 1) (by omega) (by omega) (by omega)
    omega
theorem rows_in {T : TB} {m : Int} {F K : Int → Int} (h : isRows T m F K) {i : Int} (i0 : 0 ≤ i) (i1 : i < m) : 0 ≤ F i ∧ F i < 4294967296 := by
  have h3 := h.2.2.1
  have h1 := h.1
  constructor
  · by_cases e : i = 0
    · rw [e, h.2.1]; omega
    · have := rows_lt h (i := 0) (j := i) (by omega) (by omega) i1
      rw [h.2.1] at this
      omega
  · have h4 := h3 (m - 1) (by omega) (by omega)
    rw [nxF_end (by omega)] at h4
    by_cases e : i = m - 1
    · rw [e]; exact h4
    · have := rows_lt h (i := i) (j := m - 1) i0 (by omega) (by omega)
      omega
/-- a rising row that has just a set -/
def seqS (f : Int → Int) (lo hi : Int) (S : Int → Prop) : Prop := lo ≤ hi ∧ (∀ i j : Int, lo ≤ i → i < j → j < hi → f i < f j) ∧ (∀ i : Int, lo ≤ i → i < hi → S (f i)) ∧ ∀ x : Int, S x → ∃ i : Int, lo ≤ i ∧ i < hi ∧ f i = x
theorem seqS_S {f : Int → Int} {lo hi : Int} {S S2 : Int → Prop} (h : seqS f lo hi S) (e : ∀ x, S x ↔ S2 x) : seqS f lo hi S2 := ⟨h.1, h.2.1, fun i i0 i1 => (e _).mp (h.2.2.1 i i0 i1), fun x hx => h.2.2.2 x ((e x).mpr hx)⟩
theorem seqS_f {f g : Int → Int} {lo hi : Int} {S : Int → Prop} (h : seqS f lo hi S) (e : ∀ i, lo ≤ i → i < hi → f i = g i) : seqS g lo hi S := by
  refine ⟨h.1, fun i j i0 ij j1 => ?_, fun i i0 i1 => ?_, fun x hx => ?_⟩
  · rw [← e i i0 (by omega), ← e j (by omega) j1]; exact h.2.1 i j i0 ij j1
  · rw [← e i i0 i1]; exact h.2.2.1 i i0 i1
  · obtain ⟨i, i0, i1, i2⟩ := h.2.2.2 x hx
    exact ⟨i, i0, i1, by rw [← e i i0 i1]; exact i2⟩
theorem seqS_push {f g : Int → Int} {lo hi x : Int} {S : Int → Prop} (h : seqS f lo hi S) (hx : ∀ y, S y → y < x) (e : ∀ i, lo ≤ i → i < hi → g i = f i) (ex : g hi = x) : seqS g lo (hi + 1) (fun y => S y ∨ y = x) := by
  have h0 := h.1
  refine ⟨by omega, fun i j i0 ij j1 => ?_, fun i i0 i1 => ?_, fun y hy => ?_⟩
  · rcases (show j < hi ∨ j = hi by omega) with u | u
    · rw [e i i0 (by omega), e j (by omega) u]; exact h.2.1 i j i0 ij u
    · rw [u, ex, e i i0 (by omega)]; exact hx _ (h.2.2.1 i i0 (by omega))
  · rcases (show i < hi ∨ i = hi by omega) with u | u
    · rw [e i i0 u]; exact Or.inl (h.2.2.1 i i0 u)
    · rw [u]; exact Or.inr ex
  · rcases hy with hy | hy
    · obtain ⟨i, i0, i1, i2⟩ := h.2.2.2 y hy
      exact ⟨i, i0, by omega, by rw [e i i0 i1]; exact i2⟩
    · exact ⟨hi, by omega, by omega, by rw [ex, hy]⟩
theorem seqS_u {f g : Int → Int} {lo hi hj : Int} {S : Int → Prop} (h : seqS f lo hi S) (h2 : seqS g lo hj S) : hi = hj ∧ ∀ i : Int, lo ≤ i → i < hi → f i = g i := by
  have go : ∀ {f g : Int → Int} {hi hj : Int}, seqS f lo hi S → seqS g lo hj S → ∀ n : Nat, lo + (n : Int) < hi → lo + (n : Int) < hj ∧ f (lo + n) = g (lo + n) := by
    intro f g hi hj h h2 n
    induction n using Nat.strongRecOn with
    | ind n ih =>
      intro hn
      obtain ⟨i, i0, i1, i2⟩ := h2.2.2.2 _ (h.2.2.1 (lo + n) (by omega) hn)
      obtain ⟨k, rfl⟩ : ∃ k : Nat, i = lo + k := ⟨(i - lo).toNat, by omega⟩
      have hk : k = n := by
        rcases (show k = n ∨ k < n ∨ n < k by omega) with e | e | e
        · exact e
        · have h3 := (ih k e (by omega)).2
          have h4 := h.2.1 (lo + k) (lo + n) (by omega) (by omega) hn
          omega
        · -- g at n lies below f at n, and is one of f's
          have h5 := h2.2.1 (lo + n) (lo + k) (by omega) (by omega) i1
          obtain ⟨j, j0, j1, j2⟩ := h.2.2.2 _ (h2.2.2.1 (lo + n) (by omega) (by omega))
          obtain ⟨q, rfl⟩ : ∃ q : Nat, j = lo + q := ⟨(j - lo).toNat, by omega⟩
          rcases (show q < n ∨ n ≤ q by omega) with u | u
          · have h6 := (ih q u (by omega)).2
            have h7 := h2.2.1 (lo + q) (lo + n) (by omega) (by omega) (by omega)
            omega
          · rcases (show q = n ∨ n < q by omega) with w | w
            · rw [w] at j2; omega
            · have := h.2.1 (lo + n) (lo + q) (by omega) (by omega) j1
              omega
      subst hk
      exact ⟨i1, i2.symm⟩
  have a0 := h.1
  have b0 := h2.1
  have le1 : hi ≤ hj := Classical.byContradiction fun hc => by
    have := (go h h2 (hj - lo).toNat (by omega)).1
    omega
  have le2 : hj ≤ hi := Classical.byContradiction fun hc => by
    have := (go h2 h (hi - lo).toNat (by omega)).1
    omega
  refine ⟨by omega, fun i i0 i1 => ?_⟩
  obtain ⟨k, rfl⟩ : ∃ k : Nat, i = lo + k := ⟨(i - lo).toNat, by omega⟩
  exact (go h h2 k i1).2
/-- beginnings of so many bits in which a row begins that isn't theirs -/
def ND (F : Int → Int) (m b x : Int) : Prop := x % wd b = 0 ∧ ∃ k : Int, 1 ≤ k ∧ k < m ∧ x < F k ∧ F k < x + wd b
/-- the nodes of the reference -/
def NS (M : xM) (r : Int) (T : TB) (m : Int) (F : Int → Int) : Prop := M (r + 15) 0 = 0 ∧ M (r + 15) 1 = 1 ∧ M (r + 15) (tZ T) = M r 15 ∧ M (r + 14) 0 = 0 ∧ M (r + 13) 0 = 0 ∧ (∀ l : Int, 1 ≤ l → l < tZ T → seqS (M (r + 14)) (M (r + 15) l) (M (r + 15) (l + 1)) (ND F m (tB (tS T) l.toNat)) ∧ ∀ n : Int, M (r + 15) l ≤ n → n < M (r + 15) (l + 1) → M (r + 13) n = l) ∧ ∀ l : Int, 1 ≤ l → l ≤ tZ T → 1 ≤ M (r + 15) l ∧ M (r + 15) l ≤ 1 + 120 * (l - 1)
theorem mul_le {y a w : Int} (hw : 0 < w) (hy : y % w = 0) (h : y ≤ a) : y ≤ a - a % w := by
  have h1 := Int.emod_add_mul_ediv a w
  obtain ⟨q, rfl⟩ := Int.dvd_of_emod_eq_zero hy
  have h2 : q ≤ a / w := by
    rw [Int.le_ediv_iff_mul_le hw, Int.mul_comm]
    exact h
  have h3 := Int.mul_le_mul_of_nonneg_left h2 (Int.le_of_lt hw)
  omega
theorem mod_sub {a w : Int} : (a - a % w) % w = 0 := by
  rw [Int.sub_emod, Int.emod_emod, Int.sub_self, Int.zero_emod]
theorem tWF_Z {T : TB} (hw : tWF T) : 6 ≤ tZ T := by
  have h1 : ∀ l : Nat, (l : Int) ≤ tZ T → tB (tS T) l ≤ 6 * (l : Int) := by
    intro l
    induction l with
    | zero => exact fun _ => Int.le_refl _
    | succ l ih =>
      intro h
      have := ih (by omega)
      have hs := (hw.2.2.2.2.2.2.1 l (by omega) (by omega)).2
      show tB (tS T) l + tS T l ≤ _
      omega
  have h2 := h1 (tZ T).toNat (by have := hw.2.2.2.2.2.1; omega)
  rw [hw.2.2.2.2.2.2.2] at h2
  omega
theorem qMo_addsNode {d : Nat} {M : xM} {Q : xQ} {r l v n : Int} (e : M r 15 = n) (n0 : 0 ≤ n) (n1 : n < 2000) (h : ∀ N : xM, N r 15 = n + 1 → N (r + 13) n = l → N (r + 14) n = v → (∀ b j : Int, ¬ (b = r ∧ j = 15) → ¬ (b = r + 13 ∧ j = n) → ¬ (b = r + 14 ∧ j = n) → N b j = M b j) → Q xU N) : Ru d kMo_addsNode 0 [xO 9 r, xI l, xL v, xU] [] M Q := by
  refine vMo_addsNode_0 ?_
  simp (disch := omega) only [up_un, e]
  rw [z32_id (by omega) (by omega)]
  refine ⟨by omega, by omega, h _ up_same ?_ ?_ (fun b j h1 h2 h3 => ?_)⟩
  · simp (disch := omega) only [up_un, up_at]
  · simp (disch := omega) only [up_un, up_at]
  · simp (disch := omega) only [up_un]
theorem qMo_laysNodes {d : Nat} {M : xM} {Q : xQ} {T : TB} {r m : Int} {K : Int → Int} (hw : tWF T) (hR : isRows T m (M (r + 6)) K) (hm : m ≤ 121) (e5 : M (r + 5) 0 = m) (e8 : M (r + 8) 0 = tZ T) (e10 : ∀ l : Int, 0 ≤ l → l ≤ tZ T → M (r + 10) l = tB (tS T) l.toNat)
    (h : ∀ N : xM, NS N r T m (M (r + 6)) → N r 19 = 0 → (∀ b j : Int, ¬ (b = r ∧ (j = 15 ∨ j = 19)) → ¬ b = r + 13 → ¬ b = r + 14 → ¬ b = r + 15 → N b j = M b j) → Q xU N) : Ru (d + 1) kMo_laysNodes 0 [xO 9 r, xU, xU, xU, xU, xU, xU, xU, xU] [] M Q := by
  have hZ := hw.2.2.2.2.2.1
  have hZ6 := tWF_Z hw
  have hm1 := hR.1
  generalize hFd : M (r + 6) = F at hR h
  refine vMo_laysNodes_0 ⟨by decide, qMo_addsNode (n := 0) ?_ (Int.le_refl _) (by decide) (fun N0 a1 a2 a3 hf0 => vMo_laysNodes_23 ?_)⟩
  · simp (disch := omega) only [up_un, up_at]
  -- levels
  refine loop_up (tZ T) (P := fun l => ∀ (N : xM) (w2 w4 w5 w7 : xV), 1 ≤ l → (N r 15 ≤ 1 + 120 * (l - 1) ∧ 1 ≤ N r 15) → (l = 1 → N r 15 = 1) → N (r + 15) 0 = 0 → (1 < l → N (r + 15) 1 = 1) → N (r + 14) 0 = 0 → N (r + 13) 0 = 0 → N r 19 = 0 → (∀ k : Int, 1 ≤ k → k < l → seqS (N (r + 14)) (N (r + 15) k) (if k + 1 = l then N r 15 else N (r + 15) (k + 1)) (ND F m (tB (tS T) k.toNat)) ∧ (∀ n : Int, N (r + 15) k ≤ n → n < (if k + 1 = l then N r 15 else N (r + 15) (k + 1)) → N (r + 13) n = k) ∧ 1 ≤ N (r + 15) k ∧ N (r + 15) k ≤ 1 + 120 * (k - 1)) → (∀ b j : Int, ¬ (b = r ∧ (j = 15 ∨ j = 19)) → ¬ b = r + 13 → ¬ b = r + 14 → ¬ b = r + 15 → N b j = M b j) → Ru (d + 1) kMo_laysNodes 25 [xO 9 r, xI l, w2, xU, w4, w5, xU, w7, xU] [] N Q) (fun l hl ih N w2 w4 w5 w7 l0 nb nb1 f0 f1 v0 v1 c0 hs hf => ?_) 1 hZ.1 N0 xU xU xU xU (Int.le_refl _) (by omega) (fun _ => a1) ?_ (fun z => by omega) ?_ ?_ ?_ (fun k k0 k1 => by omega) (fun b j h1 h2 h3 h4 => ?_)
  · refine vMo_laysNodes_25 ⟨by decide, ?_⟩
    rw [hf (r + 8) 0 (by omega) (by omega) (by omega) (by omega), e8]
    refine ⟨fun q => ⟨by decide, by omega, ?_⟩, fun q => ⟨by omega, ?_⟩⟩
    · have el : l = tZ T := by omega
      subst el
      refine h _ ⟨?_, ?_, ?_, ?_, ?_, fun k k0 k1 => ?_, fun k k0 k1 => ?_⟩ (by simp (disch := omega) only [up_un]; exact c0) (fun b j h1 h2 h3 h4 => by rw [up_ne h4]; exact hf b j h1 h2 h3 h4)
      · rw [up_off (by omega)]; exact f0
      · rw [up_off (by omega)]; exact f1 (by omega)
      · rw [up_same, up_un (by omega)]
      · rw [up_ne (by omega)]; exact v0
      · rw [up_ne (by omega)]; exact v1
      · obtain ⟨s1, s2, s3, s4⟩ := hs k k0 k1
        have e1 : up N (r + 15) (tZ T) (N r 15) (r + 15) k = N (r + 15) k := up_off (by omega)
        have e2 : up N (r + 15) (tZ T) (N r 15) (r + 15) (k + 1) = if k + 1 = tZ T then N r 15 else N (r + 15) (k + 1) := by
          by_cases e : k + 1 = tZ T
          · rw [e, up_same, if_pos rfl]
          · rw [up_off e, if_neg e]
        have e3 : up N (r + 15) (tZ T) (N r 15) (r + 14) = N (r + 14) := funext fun j => up_ne (by omega)
        have e4 : up N (r + 15) (tZ T) (N r 15) (r + 13) = N (r + 13) := funext fun j => up_ne (by omega)
        rw [e1, e2, e3, e4]
        exact ⟨s1, s2⟩
      · by_cases e : k = tZ T
        · rw [e, up_same]; omega
        · rw [up_off e]; exact (hs k k0 (by omega)).2.2
    · have hb := tB_hi hw (l := l) (by omega) hl
      refine vMo_lengthAt_0 ?_
      rw [z32_id (x := 17 * 0) (by decide) (by decide), z32_id (by omega) (by omega), show (17 : Int) * 0 + l = l by omega, up_ne (by omega), hf (r + 10) l (by omega) (by omega) (by omega) (by omega), e10 l (by omega) hl]
      refine ⟨by omega, vMo_laysNodes_51 (qMo_sizeOf (by omega) (by omega) (vMo_laysNodes_54 ?_))⟩
      have wp := wd_pos (tB (tS T) l.toNat)
      have wl := wd_le (n := tB (tS T) l.toNat) (by omega)
      generalize hW : wd (tB (tS T) l.toNat) = w at wp wl
      -- rows of a level
      refine loop_up m (P := fun k => ∀ (N2 : xM) (w5 w7 : xV), 1 ≤ k → (N r 15 ≤ N2 r 15 ∧ N2 r 15 ≤ N r 15 + (k - 1)) → N2 (r + 15) l = N r 15 → seqS (N2 (r + 14)) (N r 15) (N2 r 15) (fun x => x % w = 0 ∧ ∃ i : Int, 1 ≤ i ∧ i < k ∧ x < F i ∧ F i < x + w) → (∀ n : Int, N r 15 ≤ n → n < N2 r 15 → N2 (r + 13) n = l) → (∀ b j : Int, ¬ (b = r ∧ j = 15) → ¬ (b = r + 13 ∧ N r 15 ≤ j) → ¬ (b = r + 14 ∧ N r 15 ≤ j) → ¬ (b = r + 15 ∧ j = l) → N2 b j = N b j) → Ru (d + 1) kMo_laysNodes 58 [xO 9 r, xI l, xL w, xU, xI k, w5, xU, w7, xU] [] N2 Q) (fun k hk ihk N2 w5 w7 k0 nb2 g15 hs2 hl2 hf2 => ?_) 1 hm1 _ w5 w7 (Int.le_refl _) ?_ up_same ?_ (fun n n0 n1 => ?_) (fun b j h1 h2 h3 h4 => up_un (by omega))
      · refine vMo_laysNodes_58 ⟨by decide, ?_⟩
        rw [hf2 (r + 5) 0 (by omega) (by omega) (by omega) (by omega), hf (r + 5) 0 (by omega) (by omega) (by omega) (by omega), e5]
        refine ⟨fun q => ?_, fun q => ⟨by omega, by omega, by omega, ?_⟩⟩
        · have ek : k = m := by omega
          subst ek
          rw [z32_id (by omega) (by omega)]
          refine ih (l + 1) (by omega) (by omega) N2 _ _ _ _ (by omega) (by omega) (fun z => by omega) ?_ (fun _ => ?_) ?_ ?_ ?_ (fun j j0 j1 => ?_) (fun b j h1 h2 h3 h4 => ?_)
          · rw [hf2 _ _ (by omega) (by omega) (by omega) (by omega)]; exact f0
          · by_cases e : l = 1
            · subst e; rw [g15]; exact nb1 rfl
            · rw [hf2 _ _ (by omega) (by omega) (by omega) (by omega)]; exact f1 (by omega)
          · rw [hf2 _ _ (by omega) (by omega) (by omega) (by omega)]; exact v0
          · rw [hf2 _ _ (by omega) (by omega) (by omega) (by omega)]; exact v1
          · rw [hf2 _ _ (by omega) (by omega) (by omega) (by omega)]; exact c0
          · by_cases e : j = l
            · subst e
              rw [if_pos rfl, g15]
              refine ⟨seqS_S hs2 (fun x => ?_), hl2, by omega, by omega⟩
              unfold ND
              rw [hW]
            · rw [if_neg (by omega)]
              obtain ⟨s1, s2, s3, s4⟩ := hs j j0 (by omega)
              rw [hf2 (r + 15) j (by omega) (by omega) (by omega) (by omega)]
              have ee : N2 (r + 15) (j + 1) = if j + 1 = l then N r 15 else N (r + 15) (j + 1) := by
                by_cases e2 : j + 1 = l
                · rw [if_pos e2, e2, g15]
                · rw [if_neg e2, hf2 (r + 15) (j + 1) (by omega) (by omega) (by omega) (by omega)]
              have hle : (if j + 1 = l then N r 15 else N (r + 15) (j + 1)) ≤ N r 15 := by
                by_cases e2 : j + 1 = l
                · rw [if_pos e2]; omega
                · rw [if_neg e2]
                  -- levels ahead begin no later
                  have hq : N (r + 15) (j + 1) ≤ N (r + 15) (l - 1) := by
                    refine loop_dn (j + 1) (P := fun z => z < l → N (r + 15) (j + 1) ≤ N (r + 15) z) (fun z hz ihz hzl => ?_) (l - 1) (by omega) (by omega)
                    by_cases ez : z = j + 1
                    · rw [ez]; exact Int.le_refl _
                    · have h1 := ihz (z - 1) (by omega) (by omega) (by omega)
                      have h2 := (hs (z - 1) (by omega) (by omega)).1.1
                      rw [if_neg (by omega), show z - 1 + 1 = z by omega] at h2
                      omega
                  have h2 := (hs (l - 1) (by omega) (by omega)).1.1
                  rw [if_pos (by omega)] at h2
                  omega
              rw [ee]
              refine ⟨seqS_f s1 (fun i i0 i1 => (hf2 (r + 14) i (by omega) (by omega) (by omega) (by omega)).symm), fun n n0 n1 => ?_, s3, s4⟩
              rw [hf2 (r + 13) n (by omega) (by omega) (by omega) (by omega)]
              exact s2 n n0 n1
          · rw [hf2 b j (by omega) (by omega) (by omega) (by omega)]; exact hf b j h1 h2 h3 h4
        · have hFk : N2 (r + 6) k = F k := by rw [hf2 (r + 6) k (by omega) (by omega) (by omega) (by omega), hf (r + 6) k (by omega) (by omega) (by omega) (by omega), hFd]
          have hin := rows_in hR (i := k) (by omega) (by omega)
          have hmod := Int.emod_nonneg (F k) (show w ≠ 0 by omega)
          have hmod2 := Int.emod_lt_of_pos (F k) wp
          rw [hFk, lrem_eq hin.1 (by omega) wp (by omega), z64_id (by omega) (by omega), g15]
          have e58 : ∀ (N3 : xM) (a5 a7 : Int), (N r 15 ≤ N3 r 15 ∧ N3 r 15 ≤ N r 15 + (k - 1) + 1) → N3 (r + 15) l = N r 15 → seqS (N3 (r + 14)) (N r 15) (N3 r 15) (fun x => x % w = 0 ∧ ∃ i : Int, 1 ≤ i ∧ i < k + 1 ∧ x < F i ∧ F i < x + w) → (∀ n : Int, N r 15 ≤ n → n < N3 r 15 → N3 (r + 13) n = l) → (∀ b j : Int, ¬ (b = r ∧ j = 15) → ¬ (b = r + 13 ∧ N r 15 ≤ j) → ¬ (b = r + 14 ∧ N r 15 ≤ j) → ¬ (b = r + 15 ∧ j = l) → N3 b j = N b j) → Ru (d + 1) kMo_laysNodes 139 [xO 9 r, xI l, xL w, xU, xI k, xL a5, xU, xL a7, xU] [] N3 Q := by
            intro N3 a5 a7 p1 p2 p3 p4 p5
            refine vMo_laysNodes_139 ?_
            rw [z32_id (by omega) (by omega)]
            exact ihk (k + 1) (by omega) (by omega) N3 _ _ (by omega) (by omega) p2 p3 p4 p5
          have old : (∀ x : Int, (x % w = 0 ∧ ∃ i : Int, 1 ≤ i ∧ i < k + 1 ∧ x < F i ∧ F i < x + w) → (x % w = 0 ∧ ∃ i : Int, 1 ≤ i ∧ i < k ∧ x < F i ∧ F i < x + w)) → seqS (N2 (r + 14)) (N r 15) (N2 r 15) (fun x => x % w = 0 ∧ ∃ i : Int, 1 ≤ i ∧ i < k + 1 ∧ x < F i ∧ F i < x + w) := fun hq => seqS_S hs2 (fun x => ⟨fun z => ⟨z.1, by obtain ⟨i, i0, i1, i2⟩ := z.2; exact ⟨i, i0, by omega, i2⟩⟩, hq x⟩)
          have atk : ∀ x : Int, x % w = 0 → x < F k → F k < x + w → x = F k - F k % w := fun x h1 h2 h3 => by
            have := blk h1 (by omega) h3
            omega
          have below : ∀ y : Int, (y % w = 0 ∧ ∃ i : Int, 1 ≤ i ∧ i < k ∧ y < F i ∧ F i < y + w) → y ≤ F k - F k % w := by
            intro y hy
            obtain ⟨i, i0, i1, i2, -⟩ := hy.2
            have h2 := rows_lt hR (i := i) (j := k) (by omega) i1 (by omega)
            exact mul_le wp hy.1 (by omega)
          have push : ¬ F k % w = 0 → (∀ y : Int, (y % w = 0 ∧ ∃ i : Int, 1 ≤ i ∧ i < k ∧ y < F i ∧ F i < y + w) → y < F k - F k % w) → Ru d kMo_addsNode 0 [xO 9 r, xI l, xL (F k - F k % w), xU] [] N2 (fun r_1 N => Ru (d + 1) kMo_laysNodes 139 [xO 9 r, xI l, xL w, xU, xI k, xL (F k % w), xU, xL (F k - F k % w), xU] [] N Q) := by
            intro hne hlt
            refine qMo_addsNode rfl (by omega) (by omega) (fun N3 p1 p2 p3 hf3 => e58 N3 _ _ (by omega) ?_ ?_ (fun n n0 n1 => ?_) (fun b j h1 h2 h3 h4 => ?_))
            · rw [hf3 _ _ (by omega) (by omega) (by omega)]; exact g15
            · rw [p1]
              refine seqS_S (seqS_push hs2 hlt (fun i i0 i1 => hf3 _ _ (by omega) (by omega) (by omega)) p3) (fun x => ⟨fun z => ?_, fun z => ?_⟩)
              · rcases z with z | z
                · exact ⟨z.1, by obtain ⟨i, i0, i1, i2⟩ := z.2; exact ⟨i, i0, by omega, i2⟩⟩
                · rw [z]; exact ⟨mod_sub, k, k0, by omega, by omega, by omega⟩
              · obtain ⟨z1, i, i0, i1, i2, i3⟩ := z
                rcases (show i < k ∨ i = k by omega) with e | e
                · exact Or.inl ⟨z1, i, i0, e, i2, i3⟩
                · rw [e] at i2 i3; exact Or.inr (atk x z1 i2 i3)
            · rcases (show n < N2 r 15 ∨ n = N2 r 15 by omega) with u | u
              · rw [hf3 _ _ (by omega) (by omega) (by omega)]; exact hl2 n n0 u
              · rw [u]; exact p2
            · rw [hf3 b j (by omega) (by omega) (by omega)]; exact hf2 b j h1 h2 h3 h4
          refine ⟨fun q2 => e58 N2 _ _ (by omega) g15 (old (fun x z => ⟨z.1, ?_⟩)) hl2 hf2, fun q2 => ⟨by omega, fun q3 => push q2 (fun y hy => ?_), fun q3 => ?_⟩⟩
          · obtain ⟨i, i0, i1, i2, i3⟩ := z.2
            rcases (show i < k ∨ i = k by omega) with e | e
            · exact ⟨i, i0, e, i2, i3⟩
            · rw [e] at i2 i3
              have := atk x z.1 i2 i3
              omega
          · obtain ⟨i, i0, i1, -⟩ := hs2.2.2.2 y hy
            omega
          · rw [z32_id (by omega) (by omega)]
            refine ⟨by omega, fun q4 => push q2 (fun y hy => ?_), fun q4 => e58 N2 _ _ (by omega) g15 (old (fun x z => ?_)) hl2 hf2⟩
            · have hle := below y hy
              rcases (show y < F k - F k % w ∨ y = F k - F k % w by omega) with u | u
              · exact u
              · exfalso
                obtain ⟨i, i0, i1, i2⟩ := hs2.2.2.2 y hy
                have hlast := below _ (hs2.2.2.1 (N2 r 15 - 1) (by omega) (by omega))
                rcases (show i = N2 r 15 - 1 ∨ i < N2 r 15 - 1 by omega) with e | e
                · rw [e] at i2; exact q4 (by omega)
                · have := hs2.2.1 i (N2 r 15 - 1) i0 e (by omega)
                  omega
            · obtain ⟨z1, i, i0, i1, i2, i3⟩ := z
              rcases (show i < k ∨ i = k by omega) with e | e
              · exact ⟨z1, i, i0, e, i2, i3⟩
              · rw [e] at i2 i3
                have h1 := atk x z1 i2 i3
                have h2 := hs2.2.2.1 (N2 r 15 - 1) (by omega) (by omega)
                have q4 := Classical.not_not.mp q4
                rw [h1, ← q4]
                exact h2
      · rw [up_un (by omega)]; omega
      · have e3 : up N (r + 15) l (N r 15) (r + 14) = N (r + 14) := funext fun j => up_ne (by omega)
        rw [e3, up_un (by omega)]
        refine ⟨Int.le_refl _, fun i j i0 ij j1 => by omega, fun i i0 i1 => by omega, fun x hx => ?_⟩
        obtain ⟨-, i, i0, i1, -⟩ := hx
        omega
      · rw [up_un (by omega)] at n1; omega
  · simp (disch := omega) only [hf0, up_un, up_at]
  · exact a3
  · exact a2
  · simp (disch := omega) only [hf0, up_un, up_at]
  · simp (disch := omega) only [hf0, up_un]

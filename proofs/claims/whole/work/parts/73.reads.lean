/-! WHAT A NODE HAS, and how the reference reads it. -/
/-- all addresses from f on, so many, have one way -/
def lfp (T : TB) (f z : Int) : Prop := ∀ a : Int, f ≤ a → a < f + z → cod T a = cod T f
noncomputable def lfb (T : TB) (f z : Int) : Bool := @decide (lfp T f z) (Classical.propDecidable _)
theorem lfb_t {T : TB} {f z : Int} (h : lfp T f z) : lfb T f z = true := @decide_eq_true _ (Classical.propDecidable _) h
theorem lfb_f {T : TB} {f z : Int} (h : ¬ lfp T f z) : lfb T f z = false := @decide_eq_false _ (Classical.propDecidable _) h
/-- the last way that the slots below q have -/
noncomputable def nX (T : TB) (v z : Int) : Nat → Int
  | 0 => -2
  | q + 1 => if lfb T (v + q * z) z = true then cod T (v + q * z) else nX T v z q
/-- a way is stored with slot q -/
noncomputable def nS (T : TB) (v z : Int) (q : Nat) : Bool := lfb T (v + q * z) z && decide (¬ cod T (v + q * z) = nX T v z q)
noncomputable def nC (T : TB) (v z : Int) : Nat → Int
  | 0 => 0
  | q + 1 => if lfb T (v + q * z) z = true then nC T v z q else lor (nC T v z q) (lshl 1 q)
noncomputable def nR (T : TB) (v z : Int) : Nat → Int
  | 0 => 0
  | q + 1 => if nS T v z q = true then lor (nR T v z q) (lshl 1 q) else nR T v z q
noncomputable def nN (T : TB) (v z : Int) : Nat → Int
  | 0 => 0
  | q + 1 => if nS T v z q = true then nN T v z q + 1 else nN T v z q
theorem cod_ge {T : TB} (hw : tWF T) (a : Int) : -1 ≤ cod T a ∧ cod T a ≤ 999 := by
  have h1 := rl_in hw a
  unfold cod cd
  by_cases e : rl T a = -1
  · rw [if_pos e]; omega
  · rw [if_neg e, tK_at hw (by omega) h1.2.1]
    have hh := (hw.2.1 (rl T a) (by omega) h1.2.1).2.2.2
    have := hw.2.2.2.1 _ hh.1 hh.2 (tU_pos (by omega) h1.2.1)
    omega
theorem nN_b (T : TB) (v z : Int) : ∀ q : Nat, 0 ≤ nN T v z q ∧ nN T v z q ≤ q
  | 0 => ⟨Int.le_refl _, Int.le_refl _⟩
  | q + 1 => by
    have := nN_b T v z q
    unfold nN
    split <;> omega
theorem nN_st (T : TB) (v z : Int) (q : Nat) : nN T v z q ≤ nN T v z (q + 1) := by
  have e : nN T v z (q + 1) = if nS T v z q = true then nN T v z q + 1 else nN T v z q := rfl
  rw [e]
  split <;> omega
theorem nN_mono {T : TB} {v z : Int} {j k : Nat} (h : j ≤ k) : nN T v z j ≤ nN T v z k := by
  induction k with
  | zero => rw [show j = 0 by omega]; exact Int.le_refl _
  | succ k ih =>
    by_cases e : j = k + 1
    · rw [e]; exact Int.le_refl _
    · exact Int.le_trans (ih (by omega)) (nN_st T v z k)
theorem nN_X {T : TB} (hw : tWF T) (v z : Int) : ∀ q : Nat, nN T v z q = 0 ↔ nX T v z q = -2
  | 0 => ⟨fun _ => rfl, fun _ => rfl⟩
  | q + 1 => by
    have ih := nN_X hw v z q
    have hb := nN_b T v z q
    have hc := cod_ge hw (v + q * z)
    unfold nN nX nS
    by_cases e : lfb T (v + q * z) z = true
    · rw [e, if_pos rfl]
      by_cases e2 : cod T (v + q * z) = nX T v z q
      · rw [decide_eq_false (by exact fun z => z e2)]
        simp only [Bool.and_false, Bool.false_eq_true, if_false]
        rw [e2]
        exact ih
      · rw [decide_eq_true e2]
        simp only [Bool.and_self, if_true]
        constructor <;> intro h <;> omega
    · rw [if_neg e, Bool.eq_false_iff.mpr e]
      simp only [Bool.false_and, Bool.false_eq_true, if_false]
      exact ih
theorem wd_mul {b s : Int} (s0 : 0 ≤ s) (h : b + s ≤ 32) : wd b = 2 ^ s.toNat * wd (b + s) := by
  unfold wd
  rw [← Int.pow_add]
  congr 1
  omega
theorem qz_le {q n z : Int} (h : q + 1 ≤ n) (hz : 0 < z) : q * z + z ≤ n * z := by
  have := Int.mul_le_mul_of_nonneg_right h (Int.le_of_lt hz)
  rw [Int.add_mul, Int.one_mul] at this
  exact this
theorem qz_nn {q z : Int} (h : 0 ≤ q) (hz : 0 < z) : 0 ≤ q * z := Int.mul_nonneg h (Int.le_of_lt hz)
theorem ishl_all : ∀ s : Nat, s < 31 → ishl 1 (s : Int) = 2 ^ s := by decide +kernel
theorem ishl_p {s : Int} (s0 : 0 ≤ s) (s1 : s < 31) : ishl 1 s = 2 ^ s.toNat := by
  obtain ⟨n, rfl⟩ := nat_of s0
  exact ishl_all n (by omega)
theorem p26 {s : Int} (s0 : 2 ≤ s) (s1 : s ≤ 6) : (4 : Int) ≤ 2 ^ s.toNat ∧ (2 : Int) ^ s.toNat ≤ 64 := by
  rcases (show s = 2 ∨ s = 3 ∨ s = 4 ∨ s = 5 ∨ s = 6 by omega) with rfl | rfl | rfl | rfl | rfl <;> decide
/-- one way: no row begins inside -/
theorem lfp_rows {T : TB} {m : Int} {F K : Int → Int} (h : isRows T m F K) {i f z : Int} (i0 : 0 ≤ i) (i1 : i < m) (f0 : F i ≤ f) (f1 : f < nxF F m i) (z0 : 0 < z) (fz : f + z ≤ 4294967296) : lfp T f z ↔ f + z ≤ nxF F m i := by
  have h4 := h.2.2.2.1
  have h5 := h.2.2.2.2
  constructor
  · intro hl
    refine Classical.byContradiction fun hc => ?_
    have hi : i + 1 < m := Classical.byContradiction fun z2 => by rw [nxF_end z2] at hc; omega
    rw [nxF_in hi] at hc f1
    have l3 := h.2.2.1 (i + 1) (by omega) hi
    have e1 := h4 (i + 1) (by omega) hi (F (i + 1)) (Int.le_refl _) l3
    have e2 := h4 i i0 i1 f f0 (by rw [nxF_in hi]; exact f1)
    have e3 := hl (F (i + 1)) (by omega) (by omega)
    exact h5 i i0 hi (e2.symm.trans (e3.symm.trans e1))
  · intro hl a a0 a1
    rw [h4 i i0 i1 a (by omega) (by omega), h4 i i0 i1 f f0 f1]
section RefRows
variable {d : Nat} {M : xM} {Q : xQ} {T : TB} {r t : Int}
theorem qMo_behindRow {i : Int} (hR : RW M r t T) (ht : t = 0 ∨ t = 1) (i0 : 0 ≤ i) (i1 : i < M (r + 5) t) (h : Q (xL (nxF (fun i => M (r + 6) (124 * t + i)) (M (r + 5) t) i)) M) : Ru d kMo_behindRow 0 [xO 9 r, xI t, xI i] [] M Q := by
  have hm := hR.2.1
  refine vMo_behindRow_0 ⟨by omega, ?_⟩
  rw [z32_id (x := i + 1) (by omega) (by omega), z32_id (x := 124 * t) (by omega) (by omega), z32_id (x := 124 * t + i) (by omega) (by omega), z32_id (x := 124 * t + i + 1) (by omega) (by omega)]
  refine ⟨fun q => ?_, fun q => ⟨by omega, ?_⟩⟩
  · rw [nxF_end (by omega)] at h; exact h
  · rw [nxF_in (by omega)] at h
    rw [show 124 * t + i + 1 = 124 * t + (i + 1) by omega]
    exact h
theorem qMo_rowAt {a : Int} (hR : RW M r t T) (ht : t = 0 ∨ t = 1) (a0 : 0 ≤ a) (a1 : a < 4294967296) (h : ∀ i : Int, 0 ≤ i → i < M (r + 5) t → M (r + 6) (124 * t + i) ≤ a → a < nxF (fun i => M (r + 6) (124 * t + i)) (M (r + 5) t) i → Q (xI i) M) : Ru d kMo_rowAt 0 [xO 9 r, xI t, xL a, xU, xU, xU, xU] [] M Q := by
  have hm := hR.2.1
  have hr := hR.1
  have hm1 := hr.1
  refine vMo_rowAt_0 ⟨by omega, ?_⟩
  rw [z32_id (by omega) (by omega)]
  have main : ∀ n : Int, 0 ≤ n → ∀ (lo hi : Int) (w6 : xV), hi - lo = n → 0 ≤ lo → hi < M (r + 5) t → M (r + 6) (124 * t + lo) ≤ a → a < nxF (fun i => M (r + 6) (124 * t + i)) (M (r + 5) t) hi → Ru d kMo_rowAt 13 [xO 9 r, xI t, xL a, xU, xI lo, xI hi, w6] [] M Q := by
    refine loop_dn 0 (fun n n0 ih lo hi w6 e lo0 hi1 hlo hhi => ?_)
    refine vMo_rowAt_13 ⟨fun q => ?_, fun q => ⟨by decide, ?_⟩⟩
    · rw [show hi = lo by omega] at hhi hi1
      exact h lo lo0 hi1 hlo hhi
    · rw [z32_id (x := lo + hi) (by omega) (by omega), z32_id (x := lo + hi + 1) (by omega) (by omega), idiv_eq (by omega) (by omega) (by decide) (by decide), z32_id (x := 124 * t) (by omega) (by omega), z32_id (x := 124 * t + (lo + hi + 1) / 2) (by omega) (by omega), z32_id (x := (lo + hi + 1) / 2 - 1) (by omega) (by omega)]
      refine ⟨by omega, fun q2 => ih ((lo + hi + 1) / 2 - 1 - lo) (by omega) (by omega) lo _ _ rfl lo0 (by omega) hlo ?_, fun q2 => ih (hi - (lo + hi + 1) / 2) (by omega) (by omega) _ hi _ rfl (by omega) hi1 (by omega) hhi⟩
      rw [nxF_in (by omega), show (lo + hi + 1) / 2 - 1 + 1 = (lo + hi + 1) / 2 by omega]
      exact q2
  refine main (M (r + 5) t - 1 - 0) (by omega) 0 _ _ rfl (by omega) (by omega) ?_ ?_
  · have := hr.2.1
    have e : M (r + 6) (124 * t + 0) = 0 := this
    omega
  · rw [nxF_end (by omega)]; exact a1
theorem qMo_isOne {f z : Int} (hR : RW M r t T) (ht : t = 0 ∨ t = 1) (f0 : 0 ≤ f) (z0 : 0 < z) (fz : f + z ≤ 4294967296) (h1 : lfp T f z → Q (xI 1) M) (h0 : ¬ lfp T f z → Q (xI 0) M) : Ru (d + 1) kMo_isOne 0 [xO 9 r, xI t, xL f, xU, xL z, xU] [] M Q := by
  refine vMo_isOne_0 (qMo_rowAt hR ht f0 (by omega) (fun i i0 i1 a0 a1 => vMo_isOne_8 (qMo_behindRow hR ht i0 i1 (vMo_isOne_11 ?_))))
  rw [z64_id (by omega) (by omega)]
  have hl := lfp_rows hR.1 i0 i1 a0 a1 z0 fz
  exact ⟨fun q => h0 (fun w => by have := hl.mp w; omega), fun q => h1 (hl.mpr (by omega))⟩
theorem qMo_codeAt {a : Int} (hR : RW M r t T) (ht : t = 0 ∨ t = 1) (a0 : 0 ≤ a) (a1 : a < 4294967296) (h : Q (xI (cod T a)) M) : Ru (d + 1) kMo_codeAt 0 [xO 9 r, xI t, xL a, xU] [] M Q := by
  have hm := hR.2.1
  refine vMo_codeAt_0 (qMo_rowAt hR ht a0 a1 (fun i i0 i1 b0 b1 => vMo_codeAt_14 ?_))
  rw [z32_id (x := 124 * t) (by omega) (by omega), z32_id (by omega) (by omega)]
  have e := hR.1.2.2.2.1 i i0 i1 a b0 b1
  refine ⟨by omega, ?_⟩
  rw [e] at h
  exact h
theorem qMo_slotsAt {l : Int} (hw : tWF T) (hR : RW M r t T) (ht : t = 0 ∨ t = 1) (l0 : 0 ≤ l) (l1 : l < tZ T) (h : Q (xI (2 ^ (tS T l).toNat)) M) : Ru d kMo_slotsAt 0 [xO 9 r, xI t, xI l] [] M Q := by
  have hZ := hw.2.2.2.2.2.1
  have hs := hw.2.2.2.2.2.2.1 l l0 l1
  refine vMo_slotsAt_0 ?_
  rw [z32_id (x := 16 * t) (by omega) (by omega), z32_id (by omega) (by omega), hR.2.2.2.1 l l0 l1, ishl_p (by omega) (by omega)]
  exact ⟨by omega, h⟩
theorem qMo_lengthAt {l : Int} (hw : tWF T) (hR : RW M r t T) (ht : t = 0 ∨ t = 1) (l0 : 0 ≤ l) (l1 : l ≤ tZ T) (h : Q (xI (tB (tS T) l.toNat)) M) : Ru d kMo_lengthAt 0 [xO 9 r, xI t, xI l] [] M Q := by
  have hZ := hw.2.2.2.2.2.1
  refine vMo_lengthAt_0 ?_
  rw [z32_id (x := 17 * t) (by omega) (by omega), z32_id (by omega) (by omega), hR.2.2.2.2 l l0 l1]
  exact ⟨by omega, h⟩
theorem qMo_slotSize {l : Int} (hw : tWF T) (hR : RW M r t T) (ht : t = 0 ∨ t = 1) (l0 : 0 ≤ l) (l1 : l < tZ T) (h : Q (xL (wd (tB (tS T) (l + 1).toNat))) M) : Ru (d + 1) kMo_slotSize 0 [xO 9 r, xI t, xI l] [] M Q := by
  have hZ := hw.2.2.2.2.2.1
  have hb := tB_hi hw (l := l + 1) (by omega) (by omega)
  refine vMo_slotSize_0 ?_
  rw [z32_id (by omega) (by omega)]
  exact qMo_lengthAt hw hR ht (by omega) (by omega) (vMo_slotSize_8 (qMo_sizeOf (by omega) (by omega) (vMo_slotSize_11 h)))
end RefRows
theorem RW_fr {M N : xM} {r t : Int} {T : TB} (h : RW M r t T) (e : ∀ b j : Int, r + 5 ≤ b → b ≤ r + 10 → N b j = M b j) : RW N r t T := by
  unfold RW
  simp only [e (r + 5) _ (by omega) (by omega), e (r + 6) _ (by omega) (by omega), e (r + 7) _ (by omega) (by omega), e (r + 8) _ (by omega) (by omega), e (r + 9) _ (by omega) (by omega), e (r + 10) _ (by omega) (by omega)]
  exact h
/-- a node's slots lie below all addresses -/
def ndOk (T : TB) (l v : Int) : Prop := (0 ≤ l ∧ l < tZ T) ∧ 0 ≤ v ∧ v + wd (tB (tS T) l.toNat) ≤ 4294967296
theorem nd_sl {T : TB} (hw : tWF T) {l v : Int} (h : ndOk T l v) : wd (tB (tS T) l.toNat) = 2 ^ (tS T l).toNat * wd (tB (tS T) (l + 1).toNat) ∧ ∀ q : Int, 0 ≤ q → q < 2 ^ (tS T l).toNat → 0 ≤ q * wd (tB (tS T) (l + 1).toNat) ∧ v + q * wd (tB (tS T) (l + 1).toNat) + wd (tB (tS T) (l + 1).toNat) ≤ 4294967296 := by
  obtain ⟨⟨l0, l1⟩, v0, v1⟩ := h
  have hs := hw.2.2.2.2.2.2.1 l l0 l1
  have hb := tB_hi hw (l := l + 1) (by omega) (by omega)
  have e := tB_s (tS T) l0
  have e2 : wd (tB (tS T) l.toNat) = 2 ^ (tS T l).toNat * wd (tB (tS T) (l + 1).toNat) := by
    rw [e]
    exact wd_mul (by omega) (by omega)
  refine ⟨e2, fun q q0 q1 => ?_⟩
  have wp := wd_pos (tB (tS T) (l + 1).toNat)
  have := qz_le (q := q) (n := 2 ^ (tS T l).toNat) (by omega) wp
  have := qz_nn q0 wp
  omega
theorem qMo_reads {d : Nat} {M : xM} {Q : xQ} {T : TB} {r t l v : Int} (hw : tWF T) (hR : RW M r t T) (ht : t = 0 ∨ t = 1) (hv : ndOk T l v)
    (h : ∀ N : xM, N r 20 = nC T v (wd (tB (tS T) (l + 1).toNat)) (2 ^ (tS T l).toNat) → N r 21 = nR T v (wd (tB (tS T) (l + 1).toNat)) (2 ^ (tS T l).toNat) → N r 22 = nN T v (wd (tB (tS T) (l + 1).toNat)) (2 ^ (tS T l).toNat) → (∀ q : Nat, q < 2 ^ (tS T l).toNat → nS T v (wd (tB (tS T) (l + 1).toNat)) q = true → N (r + 16) (nN T v (wd (tB (tS T) (l + 1).toNat)) q) = cod T (v + q * wd (tB (tS T) (l + 1).toNat))) → (∀ b j : Int, ¬ (b = r ∧ (j = 20 ∨ j = 21 ∨ j = 22)) → ¬ b = r + 16 → N b j = M b j) → Q xU N) : Ru (d + 3) kMo_reads 0 [xO 9 r, xI t, xI l, xL v, xU, xU, xU, xU, xU, xU, xU] [] M Q := by
  obtain ⟨hl, v0, v1⟩ := id hv
  have hs := hw.2.2.2.2.2.2.1 l hl.1 hl.2
  have hp := p26 hs.1 hs.2
  obtain ⟨-, hq⟩ := nd_sl hw hv
  have wp := wd_pos (tB (tS T) (l + 1).toNat)
  have hb := tB_hi hw (l := l + 1) (by omega) (by omega)
  have wl := wd_le (n := tB (tS T) (l + 1).toNat) (by omega)
  refine vMo_reads_0 (qMo_slotSize hw (RW_fr hR (fun b j b0 b1 => by rw [up_ne (by omega), up_ne (by omega), up_ne (by omega)])) ht hl.1 hl.2 (vMo_reads_21 ?_))
  generalize wd (tB (tS T) (l + 1).toNat) = z at hq wp wl h ⊢
  have main : ∀ q : Int, q ≤ 2 ^ (tS T l).toNat → ∀ (N : xM) (w8 w10 : xV), 0 ≤ q → N r 20 = nC T v z q.toNat → N r 21 = nR T v z q.toNat → N r 22 = nN T v z q.toNat → (0 < nN T v z q.toNat → N (r + 16) (nN T v z q.toNat - 1) = nX T v z q.toNat) → (∀ k : Nat, (k : Int) < q → nS T v z k = true → N (r + 16) (nN T v z k) = cod T (v + k * z)) → (∀ b j : Int, ¬ (b = r ∧ (j = 20 ∨ j = 21 ∨ j = 22)) → ¬ b = r + 16 → N b j = M b j) → Ru (d + 3) kMo_reads 26 [xO 9 r, xI t, xI l, xL v, xU, xL z, xU, xI q, w8, xU, w10] [] N Q := by
    refine loop_up (2 ^ (tS T l).toNat) (fun q q1 ih N w8 w10 q0 c1 c2 c3 c4 c5 hf => ?_)
    have hRN := RW_fr hR (fun b j b0 b1 => hf b j (by omega) (by omega))
    refine vMo_reads_26 (qMo_slotsAt hw hRN ht hl.1 hl.2 (vMo_reads_34 ⟨fun e => ?_, fun e => ?_⟩))
    · have eq : q = 2 ^ (tS T l).toNat := by omega
      have en : q.toNat = 2 ^ (tS T l).toNat := by
        have : ((2 : Int) ^ (tS T l).toNat) = ((2 ^ (tS T l).toNat : Nat) : Int) := p2i _
        omega
      rw [en] at c1 c2 c3
      exact h N c1 c2 c3 (fun k k1 hk => c5 k (by have : ((2 : Int) ^ (tS T l).toNat) = ((2 ^ (tS T l).toNat : Nat) : Int) := p2i _; omega) hk) hf
    · obtain ⟨z1, z2⟩ := hq q q0 (by omega)
      have ec : ((q.toNat : Nat) : Int) = q := Int.toNat_of_nonneg q0
      have es : (q + 1).toNat = q.toNat + 1 := by omega
      have nb := nN_b T v z q.toNat
      have nb2 := nN_b T v z (q.toNat + 1)
      rw [z64_id (x := q * z) (by omega) (by omega), z64_id (by omega) (by omega)]
      refine qMo_isOne hRN ht (by omega) wp z2 (fun hlf => vMo_reads_56 ⟨fun _ => ?_, fun w => absurd (by decide) w⟩) (fun hlf => vMo_reads_56 ⟨fun w => absurd rfl w, fun _ => ?_⟩)
      · have hlb : lfb T (v + q.toNat * z) z = true := by rw [ec]; exact lfb_t hlf
        refine qMo_codeAt hRN ht (by omega) (by omega) (vMo_reads_82 ?_)
        have keep : cod T (v + q * z) = nX T v z q.toNat → Ru (d + 3) kMo_reads 26 [xO 9 r, xI t, xI l, xL v, xU, xL z, xU, xI (q + 1), xL (v + q * z), xU, xI (cod T (v + q * z))] [] N Q := by
          intro hx
          have hns : nS T v z q.toNat = false := by
            unfold nS
            rw [ec, decide_eq_false (by exact fun w => w hx), Bool.and_false]
          refine ih (q + 1) (by omega) (by omega) N _ _ (by omega) ?_ ?_ ?_ ?_ (fun k k1 hk => ?_) hf
          · rw [es]; show _ = if _ then _ else _; rw [if_pos hlb]; exact c1
          · rw [es]; show _ = if _ then _ else _; rw [hns]; exact c2
          · rw [es]; show _ = if _ then _ else _; rw [hns]; exact c3
          · rw [es]
            have e1 : nN T v z (q.toNat + 1) = nN T v z q.toNat := by show (if _ then _ else _) = _; rw [hns]; rfl
            have e2 : nX T v z (q.toNat + 1) = nX T v z q.toNat := by show (if _ then _ else _) = _; rw [if_pos hlb, ec]; exact hx
            rw [e1, e2]; exact c4
          · rcases (show (k : Int) < q ∨ k = q.toNat by omega) with e3 | e3
            · exact c5 k e3 hk
            · rw [e3, hns] at hk; cases hk
        have new : ¬ cod T (v + q * z) = nX T v z q.toNat → Ru (d + 3) kMo_reads 110 [xO 9 r, xI t, xI l, xL v, xU, xL z, xU, xI q, xL (v + q * z), xU, xI (cod T (v + q * z))] [] N Q := by
          intro hx
          have hns : nS T v z q.toNat = true := by
            unfold nS
            rw [hlb, ec, decide_eq_true hx]
            rfl
          have e1 : nN T v z (q.toNat + 1) = nN T v z q.toNat + 1 := by show (if _ then _ else _) = _; rw [hns]; rfl
          have e2 : nX T v z (q.toNat + 1) = cod T (v + q * z) := by show (if _ then _ else _) = _; rw [if_pos hlb, ec]
          refine vMo_reads_110 ?_
          simp (disch := omega) only [up_un]
          rw [c3, z32_id (x := q + 1) (by omega) (by omega), z32_id (x := nN T v z q.toNat + 1) (by omega) (by omega)]
          refine ⟨by omega, ih (q + 1) (by omega) (by omega) _ _ _ (by omega) ?_ ?_ ?_ (fun _ => ?_) (fun k k1 hk => ?_) (fun b j h1 h2 => ?_)⟩
          · rw [es]; show _ = if _ then _ else _; rw [if_pos hlb]; simp (disch := omega) only [up_un]; exact c1
          · rw [es]; show _ = if _ then _ else _; rw [hns, if_pos rfl, ec]; simp (disch := omega) only [up_un, up_at]; rw [c2]
          · rw [es, e1]; exact up_same
          · rw [es, e1, e2]; simp (disch := omega) only [up_un, up_at]
          · rcases (show (k : Int) < q ∨ k = q.toNat by omega) with e3 | e3
            · have hlt : nN T v z k + 1 ≤ nN T v z q.toNat := by
                have h1 := nN_mono (T := T) (v := v) (z := z) (j := k + 1) (k := q.toNat) (by omega)
                have h2 : nN T v z (k + 1) = nN T v z k + 1 := by show (if _ then _ else _) = _; rw [hk]; rfl
                omega
              simp (disch := omega) only [up_un]; exact c5 k e3 hk
            · rw [e3, ec]; simp (disch := omega) only [up_un, up_at]
          · simp (disch := omega) only [up_un]; exact hf b j h1 h2
        rw [c3]
        refine ⟨fun w => new (fun hx => ?_), fun w => ?_⟩
        · have h0 := (nN_X hw v z q.toNat).mp (by omega)
          have := cod_ge hw (v + q * z)
          omega
        · rw [z32_id (x := nN T v z q.toNat - 1) (by omega) (by omega), z32_id (x := q + 1) (by omega) (by omega), c4 (by omega)]
          exact ⟨by omega, fun w2 => new (fun hx => w2 hx.symm), fun w2 => keep (Classical.not_not.mp w2).symm⟩
      · have hlb : lfb T (v + q.toNat * z) z = false := by rw [ec]; exact lfb_f hlf
        have hns : nS T v z q.toNat = false := by
          unfold nS
          rw [hlb, Bool.false_and]
        rw [z32_id (by omega) (by omega)]
        refine ih (q + 1) (by omega) (by omega) _ _ _ (by omega) ?_ ?_ ?_ ?_ (fun k k1 hk => ?_) (fun b j h1 h2 => ?_)
        · rw [es]; show _ = if _ then _ else _; rw [hlb, up_same, c1, ec]; rfl
        · rw [es]; show _ = if _ then _ else _; rw [hns, up_off (by omega)]; exact c2
        · rw [es]; show _ = if _ then _ else _; rw [hns, up_off (by omega)]; exact c3
        · rw [es]
          have e1 : nN T v z (q.toNat + 1) = nN T v z q.toNat := by show (if _ then _ else _) = _; rw [hns]; rfl
          have e2 : nX T v z (q.toNat + 1) = nX T v z q.toNat := by show (if _ then _ else _) = _; rw [hlb]; rfl
          rw [e1, e2, up_ne (by omega)]; exact c4
        · rw [up_ne (by omega)]
          rcases (show (k : Int) < q ∨ k = q.toNat by omega) with e3 | e3
          · exact c5 k e3 hk
          · rw [e3, hns] at hk; cases hk
        · rw [up_un (by omega)]; exact hf b j h1 h2
  refine main 0 (by omega) _ _ _ (Int.le_refl _) ?_ ?_ ?_ (fun w => absurd w (by show ¬ (0 : Int) < 0; omega)) (fun k k1 hk => by omega) (fun b j h1 h2 => ?_)
  · simp (disch := omega) only [up_un, up_at]; rfl
  · simp (disch := omega) only [up_un, up_at]; rfl
  · simp (disch := omega) only [up_at]; rfl
  · simp (disch := omega) only [up_un]

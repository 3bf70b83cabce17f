/-! SUMS OVER NODES, in both. -/
section NodeSums
variable {T : TB} {s : Int} {lf vl lv : Int → Int}
noncomputable def sM (T : TB) (vl lv : Int → Int) : Nat → Int
  | 0 => 0
  | n + 1 => sM T vl lv n + nN T (vl n) (wd (tB (tS T) (lv n + 1).toNat)) (2 ^ (tS T (lv n)).toNat)
theorem sM_s {n : Int} (n0 : 0 ≤ n) : sM T vl lv (n + 1).toNat = sM T vl lv n.toNat + nN T (vl n) (wd (tB (tS T) (lv n + 1).toNat)) (2 ^ (tS T (lv n)).toNat) := by
  rw [show (n + 1).toNat = n.toNat + 1 by omega]
  show sM T vl lv n.toNat + nN T (vl (n.toNat : Int)) (wd (tB (tS T) (lv (n.toNat : Int) + 1).toNat)) (2 ^ (tS T (lv (n.toNat : Int))).toNat) = _
  rw [show (n.toNat : Int) = n by omega]
theorem sM_cg {vl2 lv2 : Int → Int} : ∀ n : Nat, (∀ k : Int, 0 ≤ k → k < n → vl k = vl2 k ∧ lv k = lv2 k) → sM T vl lv n = sM T vl2 lv2 n
  | 0, _ => rfl
  | n + 1, h => by
    have ih := sM_cg (vl2 := vl2) (lv2 := lv2) n (fun k k0 k1 => h k k0 (by omega))
    show sM T vl lv n + nN T (vl n) (wd (tB (tS T) (lv n + 1).toNat)) (2 ^ (tS T (lv n)).toNat) = sM T vl2 lv2 n + nN T (vl2 n) (wd (tB (tS T) (lv2 n + 1).toNat)) (2 ^ (tS T (lv2 n)).toNat)
    rw [ih, (h n (by omega) (by omega)).1, (h n (by omega) (by omega)).2]
theorem sM_b (hw : tWF T) (h : isNum T s lf vl lv) : ∀ n : Nat, (n : Int) ≤ s → 0 ≤ sM T vl lv n ∧ sM T vl lv n ≤ 64 * n
  | 0, _ => ⟨Int.le_refl _, Int.le_refl _⟩
  | n + 1, hn => by
    have ih := sM_b hw h n (by omega)
    obtain ⟨l, hl⟩ := num_at hw h (n := (n : Int)) (by omega) (by omega)
    have h64 := P64 hw hl.1.1 hl.1.2
    have nb := nN_b T (vl n) (wd (tB (tS T) (lv n + 1).toNat)) (2 ^ (tS T (lv n)).toNat)
    have e : sM T vl lv (n + 1) = sM T vl lv n + nN T (vl n) (wd (tB (tS T) (lv n + 1).toNat)) (2 ^ (tS T (lv n)).toNat) := rfl
    rw [e]
    rw [← hl.2.2.1] at h64
    omega
def sWd (T : TB) (lv : Int → Int) : Nat → Int
  | 0 => 0
  | n + 1 => sWd T lv n + wd (tB (tS T) (lv n).toNat)
theorem sWd_s {n : Int} (n0 : 0 ≤ n) : sWd T lv (n + 1).toNat = sWd T lv n.toNat + wd (tB (tS T) (lv n).toNat) := by
  rw [show (n + 1).toNat = n.toNat + 1 by omega]
  show sWd T lv n.toNat + wd (tB (tS T) (lv (n.toNat : Int)).toNat) = _
  rw [show (n.toNat : Int) = n by omega]
theorem sWd_b (hw : tWF T) (h : isNum T s lf vl lv) : ∀ n : Nat, (n : Int) ≤ s → 0 ≤ sWd T lv n ∧ sWd T lv n ≤ 4294967296 * n ∧ (0 < n → 4294967296 ≤ sWd T lv n)
  | 0, _ => ⟨Int.le_refl _, Int.le_refl _, fun z => absurd z (by decide)⟩
  | n + 1, hn => by
    have ih := sWd_b hw h n (by omega)
    obtain ⟨l, hl⟩ := num_at hw h (n := (n : Int)) (by omega) (by omega)
    have hb := tB_hi hw (l := l) hl.1.1 (by have := hl.1; omega)
    have hl00 := hl.1
    have w1 := wd_pos (tB (tS T) (lv n).toNat)
    have w2 := wd_le (n := tB (tS T) (lv n).toNat) (by rw [hl.2.2.1]; omega)
    have e : sWd T lv (n + 1) = sWd T lv n + wd (tB (tS T) (lv n).toNat) := rfl
    rw [e]
    refine ⟨by omega, by omega, fun _ => ?_⟩
    by_cases e0 : n = 0
    · subst e0
      have e1 : lv ((0 : Nat) : Int) = 0 := h.2.1.2
      rw [e1]
      have e2 : wd (tB (tS T) (0 : Int).toNat) = 4294967296 := by show wd 0 = _; exact wd_0
      rw [e2]
      omega
    · have := ih.2.2 (by omega)
      omega
theorem sWd_lv (h : isNum T s lf vl lv) {l : Int} (l0 : 0 ≤ l) (l1 : l < tZ T) (f0 : 0 ≤ lf l) : ∀ k : Nat, lf l + k ≤ lf (l + 1) → sWd T lv (lf l + k).toNat = sWd T lv (lf l).toNat + k * wd (tB (tS T) l.toNat)
  | 0, _ => by rw [show lf l + ((0 : Nat) : Int) = lf l by omega]; rw [show ((0 : Nat) : Int) = 0 from rfl, Int.zero_mul, Int.add_zero]
  | k + 1, hk => by
    have ih := sWd_lv h l0 l1 f0 k (by omega)
    rw [show lf l + ((k + 1 : Nat) : Int) = lf l + k + 1 by omega, sWd_s (by omega), ih]
    have el : lv (lf l + k) = l := by
      by_cases e : l = 0
      · subst e
        have e0 := h.1.1
        have e1 : lf (0 + 1) = 1 := h.1.2.1
        rw [show lf 0 + (k : Int) = 0 by omega]
        exact h.2.1.2
      · exact (h.2.2 l (by omega) l1).2 _ (by omega) (by omega)
    rw [el, show ((k + 1 : Nat) : Int) = (k : Int) + 1 by omega, Int.add_mul, Int.one_mul]
    omega
theorem sWd_stp (hw : tWF T) (h : isNum T s lf vl lv) : ∀ k : Nat, (k : Int) ≤ tZ T → sWd T lv (lf k).toNat = stp T lf k
  | 0, _ => by
    have e : lf ((0 : Nat) : Int) = 0 := h.1.1
    rw [e]; rfl
  | k + 1, hk => by
    have ih := sWd_stp hw h k (by omega)
    have m := num_mono h (i := k) (j := k + 1) (by omega) (by omega) (by omega)
    have m0 := num_mono h (i := 0) (j := k) (by omega) (by omega) (by omega)
    rw [h.1.1] at m0
    have h2 := sWd_lv h (l := k) (by omega) (by omega) m0 (lf (k + 1) - lf k).toNat (by omega)
    rw [show lf k + ((lf (k + 1) - lf k).toNat : Int) = lf (k + 1) by omega, ih, show ((lf (k + 1) - lf k).toNat : Int) = lf (k + 1) - lf k by omega] at h2
    rw [show ((k + 1 : Nat) : Int) = (k : Int) + 1 by omega, h2]
    show _ = stp T lf k + (lf (k + 1) - lf k) * wd (tB (tS T) k)
    rw [Int.toNat_natCast]
theorem stp_top (hw : tWF T) (h : isNum T s lf vl lv) (s0 : 1 ≤ s) (s1 : s ≤ 2000) : ∃ A k : Nat, (A : Int) = stp T lf (tZ T).toNat ∧ 2 ^ k ≤ A ∧ A < 2 ^ (k + 1) ∧ 32 ≤ k ∧ k ≤ 52 := by
  have hz := hw.2.2.2.2.2.1
  have e := sWd_stp hw h (tZ T).toNat (by omega)
  rw [show ((tZ T).toNat : Int) = tZ T by omega, h.1.2.2] at e
  have hb := sWd_b hw h s.toNat (by omega)
  rw [e] at hb
  obtain ⟨A, hA⟩ := nat_of hb.1
  have hb2 := hb.2.2 (by omega)
  obtain ⟨k, k1, k2, k3, k4⟩ := top_ex (A := A) (by omega) (by omega)
  exact ⟨A, k, hA.symm, k1, k2, k3, k4⟩
end NodeSums
section NodeSums2
variable {d : Nat} {M : xM} {Q : xQ} {T : TB} {r p : Int}
theorem NT_sM (hw : tWF T) (hN : NT M p T) {a : Int} (a0 : 0 ≤ a) : ∀ k : Nat, a + k ≤ M p 0 → M (p + 8) (a + k) - M (p + 8) a = sM T (M (p + 1)) (M (p + 2)) (a + k).toNat - sM T (M (p + 1)) (M (p + 2)) a.toNat
  | 0, _ => by rw [show a + ((0 : Nat) : Int) = a by omega]; omega
  | k + 1, hk => by
    have ih := NT_sM hw hN a0 k (by omega)
    obtain ⟨l, hl⟩ := NT_at hw hN (n := a + k) (by omega) (by omega)
    have f8 := hl.2.2.2.2.2.1.2.2.2.2.1
    rw [show a + ((k + 1 : Nat) : Int) = a + k + 1 by omega, sM_s (by omega), f8, hl.2.2.1]
    omega
theorem qNodes_storedIn {a b : Int} (hw : tWF T) (hN : NT M p T) (a0 : 0 ≤ a) (ab : a ≤ b) (b1 : b ≤ M p 0) (h : Q (xI (sM T (M (p + 1)) (M (p + 2)) b.toNat - sM T (M (p + 1)) (M (p + 2)) a.toNat)) M) : Ru d kNodes_storedIn 0 [xO 3 p, xI a, xI b] [] M Q := by
  have h9 := hN.2.1
  refine vNodes_storedIn_0 ⟨fun y => by omega, fun y => ⟨fun y2 => ?_, fun y2 => ⟨fun y3 => by omega, fun y3 => ⟨by omega, by omega, ?_⟩⟩⟩⟩
  · rw [show b = a by omega, Int.sub_self] at h
    exact h
  · have e := NT_sM hw hN a0 (b - a).toNat (by omega)
    rw [show a + ((b - a).toNat : Int) = b by omega] at e
    have hb1 := sM_b hw (NT_num hN) b.toNat (by omega)
    have hb2 := sM_b hw (NT_num hN) a.toNat (by omega)
    rw [e, z32_id (by omega) (by omega)]
    exact h
theorem qMo_storedAt {l : Int} (hw : tWF T) (hR : RL M r T) (l0 : 0 ≤ l) (l1 : l < tZ T) (h : ∀ N : xM, (∀ b j : Int, ¬ (b = r ∧ (j = 20 ∨ j = 21 ∨ j = 22)) → ¬ b = r + 16 → N b j = M b j) → Q (xI (sM T (M (r + 14)) (M (r + 13)) (M (r + 15) (l + 1)).toNat - sM T (M (r + 14)) (M (r + 13)) (M (r + 15) l).toNat)) N) : Ru (d + 4) kMo_storedAt 0 [xO 9 r, xI l, xU, xU] [] M Q := by
  have hz := hw.2.2.2.2.2.1
  have hnum := RL_num hw hR
  have hb2 := RL_b hw hR
  have mo := num_mono hnum (i := l) (j := l + 1) (by omega) (by omega) (by omega)
  have mo0 := num_mono hnum (i := 0) (j := l) (by omega) (by omega) (by omega)
  have mo1 := num_mono hnum (i := l + 1) (j := tZ T) (by omega) (by omega) (by omega)
  have hn1 := hnum.1
  refine vMo_storedAt_0 ⟨by omega, ?_⟩
  rw [show xI 0 = xI (sM T (M (r + 14)) (M (r + 13)) (M (r + 15) l).toNat - sM T (M (r + 14)) (M (r + 13)) (M (r + 15) l).toNat) by rw [Int.sub_self]]
  refine loop_up (M (r + 15) (l + 1)) (P := fun n => ∀ N : xM, M (r + 15) l ≤ n → (∀ b j : Int, ¬ (b = r ∧ (j = 20 ∨ j = 21 ∨ j = 22)) → ¬ b = r + 16 → N b j = M b j) → Ru (d + 4) kMo_storedAt 9 [xO 9 r, xI l, xI (sM T (M (r + 14)) (M (r + 13)) n.toNat - sM T (M (r + 14)) (M (r + 13)) (M (r + 15) l).toNat), xI n] [] N Q) (fun n hn ih N n0 hf => ?_) (M (r + 15) l) mo M (Int.le_refl _) (fun _ _ _ _ => rfl)
  have s1 := sM_b hw hnum n.toNat (by omega)
  have s2 := sM_b hw hnum (M (r + 15) l).toNat (by omega)
  refine vMo_storedAt_9 ?_
  rw [z32_id (x := l + 1) (by omega) (by omega), hf (r + 15) (l + 1) (by omega) (by omega), hf (r + 14) n (by omega) (by omega)]
  refine ⟨by omega, fun y => ?_, fun y => ⟨by omega, ?_⟩⟩
  · rw [show n = M (r + 15) (l + 1) by omega]
    exact h N hf
  · have hna := num_nd hw hnum l0 l1 n0 (show n < M (r + 15) (l + 1) by omega)
    have hRN := RW_fr hR.1 (fun b j b0 b1 => hf b j (by omega) (by omega))
    refine qMo_reads hw hRN (Or.inl rfl) hna.2.2.2.1 (fun N2 _ _ c22 _ hf2 => vMo_storedAt_33 ?_)
    have ih' := ih (n + 1) (by omega) (by omega) N2 (by omega) (fun b j h7 h8 => by rw [hf2 b j h7 h8]; exact hf b j h7 h8)
    rw [sM_s (by omega), hna.2.2.1] at ih'
    have nb := nN_b T (M (r + 14) n) (wd (tB (tS T) (l + 1).toNat)) (2 ^ (tS T l).toNat)
    have h64 := P64 hw l0 l1
    rw [c22, z32_id (x := n + 1) (by omega) (by omega), z32_id (by omega) (by omega), show sM T (M (r + 14)) (M (r + 13)) n.toNat - sM T (M (r + 14)) (M (r + 13)) (M (r + 15) l).toNat + nN T (M (r + 14) n) (wd (tB (tS T) (l + 1).toNat)) (2 ^ (tS T l).toNat) = sM T (M (r + 14)) (M (r + 13)) n.toNat + nN T (M (r + 14) n) (wd (tB (tS T) (l + 1).toNat)) (2 ^ (tS T l).toNat) - sM T (M (r + 14)) (M (r + 13)) (M (r + 15) l).toNat by omega]
    exact ih'
theorem qMo_unlikeAt {l : Int} (hw : tWF T) (hR : RL M r T) (hc : M r 19 = 0 ∨ (M r 19 = 1 ∧ isKind T (M (r + 15)) (M (r + 14)) (M (r + 26)))) (l0 : 0 ≤ l) (l1 : l < tZ T) (h : ∀ N : xM, N r 19 = 1 → isKind T (M (r + 15)) (M (r + 14)) (N (r + 26)) → (∀ b j : Int, ¬ (b = r ∧ j = 19) → ¬ b = r + 26 → ¬ b = r + 27 → N b j = M b j) → Q (xI (cq (fun n => N (r + 26) n = n) (M (r + 15) (l + 1)).toNat - cq (fun n => N (r + 26) n = n) (M (r + 15) l).toNat)) N) : Ru (d + 6) kMo_unlikeAt 0 [xO 9 r, xI l, xU, xU] [] M Q := by
  have hz := hw.2.2.2.2.2.1
  have hnum := RL_num hw hR
  have hb2 := RL_b hw hR
  have mo := num_mono hnum (i := l) (j := l + 1) (by omega) (by omega) (by omega)
  have mo0 := num_mono hnum (i := 0) (j := l) (by omega) (by omega) (by omega)
  have mo1 := num_mono hnum (i := l + 1) (j := tZ T) (by omega) (by omega) (by omega)
  have hn1 := hnum.1
  refine vMo_unlikeAt_0 (qMo_laysClasses hw hR hc (fun N h19 hk hf => vMo_unlikeAt_4 ⟨by omega, ?_⟩))
  have h' := h N h19 hk hf
  have g15 : ∀ j : Int, N (r + 15) j = M (r + 15) j := fun j => hf _ _ (by omega) (by omega) (by omega)
  rw [show xI 0 = xI (cq (fun n => N (r + 26) n = n) (M (r + 15) l).toNat - cq (fun n => N (r + 26) n = n) (M (r + 15) l).toNat) by rw [Int.sub_self], g15]
  refine loop_up (M (r + 15) (l + 1)) (P := fun n => M (r + 15) l ≤ n → Ru (d + 6) kMo_unlikeAt 13 [xO 9 r, xI l, xI (cq (fun n => N (r + 26) n = n) n.toNat - cq (fun n => N (r + 26) n = n) (M (r + 15) l).toNat), xI n] [] N Q) (fun n hn ih n0 => ?_) (M (r + 15) l) mo (Int.le_refl _)
  have c1 := cq_b (fun n => N (r + 26) n = n) n.toNat
  have c2 := cq_b (fun n => N (r + 26) n = n) (M (r + 15) l).toNat
  refine vMo_unlikeAt_13 ?_
  rw [z32_id (x := l + 1) (by omega) (by omega), g15]
  refine ⟨by omega, fun y => ?_, fun y => ⟨by omega, fun y4 => ?_, fun y4 => ?_⟩⟩
  · rw [show n = M (r + 15) (l + 1) by omega]
    exact h'
  · have ih' := ih (n + 1) (by omega) (by omega) (by omega)
    rw [cq_n (P := fun n => N (r + 26) n = n) (by omega) y4] at ih'
    rw [z32_id (x := n + 1) (by omega) (by omega), z32_id (by omega) (by omega), Int.add_zero]
    exact ih'
  · have ih' := ih (n + 1) (by omega) (by omega) (by omega)
    rw [cq_y (P := fun n => N (r + 26) n = n) (by omega) (Classical.not_not.mp y4)] at ih'
    rw [z32_id (x := n + 1) (by omega) (by omega), z32_id (by omega) (by omega), show cq (fun n => N (r + 26) n = n) n.toNat - cq (fun n => N (r + 26) n = n) (M (r + 15) l).toNat + 1 = cq (fun n => N (r + 26) n = n) n.toNat + 1 - cq (fun n => N (r + 26) n = n) (M (r + 15) l).toNat by omega]
    exact ih'
theorem qMo_isNode {n : Int} (hb : 0 ≤ M r 15 ∧ M r 15 ≤ 2000) (h1 : 0 ≤ n → n < M r 15 → Q (xI 1) M) (h0 : ¬ (0 ≤ n ∧ n < M r 15) → Q (xI 0) M) : Ru (d + 1) kMo_isNode 0 [xO 9 r, xI n] [] M Q := by
  refine vMo_isNode_0 ?_
  rw [z32_id (by omega) (by omega)]
  exact qMo_isIn (fun a b => vMo_isNode_13 (h1 a (by omega))) (fun z => vMo_isNode_13 (h0 (by omega)))
theorem NT_par (hw : tWF T) (hN : NT M p T) {c l : Int} (hc : NA M p T c (l + 1)) (l0 : 0 ≤ l) : ∃ n : Int, NA M p T n l ∧ M (p + 1) n = M (p + 1) c - M (p + 1) c % wd (tB (tS T) l.toNat) ∧ M (p + 5) c = n := by
  have hnum := NT_num hN
  have hca := NA_nAt hw hN hc
  have hl1 := hc.1.2
  have hx := hca.2.2.2.2.2 (by omega)
  have hbl := blk_in (a := M (p + 1) c) (b := tB (tS T) l.toNat) hx.1.1 hx.1.2 (by have := tB_hi hw (l := l) l0 (by omega); omega)
  have wp := wd_pos (tB (tS T) l.toNat)
  have wp1 := wd_pos (tB (tS T) (l + 1).toNat)
  have hs := hw.2.2.2.2.2.2.1 l l0 (by omega)
  -- slots
  have hsplit : wd (tB (tS T) l.toNat) = 2 ^ (tS T l).toNat * wd (tB (tS T) (l + 1).toNat) := (nd_sl hw (v := M (p + 1) c - M (p + 1) c % wd (tB (tS T) l.toNat)) ⟨⟨l0, by omega⟩, hbl.1, hbl.2.2.2.1⟩).1
  have hm : (M (p + 1) c - M (p + 1) c % wd (tB (tS T) l.toNat)) % wd (tB (tS T) (l + 1).toNat) = 0 := mod_dvd hbl.2.2.2.2 ⟨2 ^ (tS T l).toNat, by rw [hsplit, Int.mul_comm]⟩
  obtain ⟨e1, he1⟩ := Int.dvd_of_emod_eq_zero hm
  obtain ⟨e2, he2⟩ := Int.dvd_of_emod_eq_zero hx.2.1
  have hq0 : e1 ≤ e2 := by
    refine Int.le_of_mul_le_mul_left (a := wd (tB (tS T) (l + 1).toNat)) ?_ wp1
    omega
  have hq1 : e2 - e1 < 2 ^ (tS T l).toNat := by
    refine Int.lt_of_mul_lt_mul_left (a := wd (tB (tS T) (l + 1).toNat)) ?_ (Int.le_of_lt wp1)
    rw [Int.mul_sub, Int.mul_comm (wd (tB (tS T) (l + 1).toNat)) (2 ^ (tS T l).toNat), ← hsplit]
    omega
  have hval : M (p + 1) c = M (p + 1) c - M (p + 1) c % wd (tB (tS T) l.toNat) + ((e2 - e1).toNat : Int) * wd (tB (tS T) (l + 1).toNat) := by
    rw [show ((e2 - e1).toNat : Int) = e2 - e1 by omega, Int.mul_comm, Int.mul_sub]
    omega
  have hnode : ∃ n : Int, M (p + 12) l ≤ n ∧ n < M (p + 12) (l + 1) ∧ M (p + 1) n = M (p + 1) c - M (p + 1) c % wd (tB (tS T) l.toNat) := by
    by_cases e : l = 0
    · subst e
      refine ⟨0, by rw [hnum.1.1]; exact Int.le_refl _, by have : M (p + 12) (0 + 1) = 1 := hnum.1.2.1; omega, ?_⟩
      rw [hnum.2.1.1]
      have e9 : wd (tB (tS T) (0 : Int).toNat) = 4294967296 := by show wd 0 = _; exact wd_0
      rw [e9, Int.emod_eq_of_lt hx.1.1 hx.1.2]
      omega
    · refine num_ex hnum (by omega) (by omega) ⟨⟨hbl.1, by omega⟩, hbl.2.2.2.2, fun hlf => hx.2.2 ?_⟩
      intro a a0 a1
      have b1 : cod T a = cod T (M (p + 1) c - M (p + 1) c % wd (tB (tS T) l.toNat)) := hlf a (by omega) (by
        have h9 : (e2 - e1 + 1) * wd (tB (tS T) (l + 1).toNat) ≤ 2 ^ (tS T l).toNat * wd (tB (tS T) (l + 1).toNat) := Int.mul_le_mul_of_nonneg_right (by omega) (Int.le_of_lt wp1)
        rw [← hsplit, Int.add_mul, Int.one_mul] at h9
        rw [show ((e2 - e1).toNat : Int) = e2 - e1 by omega] at hval
        omega)
      have b2 : cod T (M (p + 1) c) = cod T (M (p + 1) c - M (p + 1) c % wd (tB (tS T) l.toNat)) := hlf _ (by omega) (by omega)
      rw [b1, b2]
  obtain ⟨n, n0, n1, n2⟩ := hnode
  have hna := NT_nd hw hN l0 (by omega) n0 n1
  refine ⟨n, hna, n2, ?_⟩
  have hP : (e2 - e1).toNat < 2 ^ (tS T l).toNat := by rw [p2i] at hq1; omega
  have hlfb : lfb T (M (p + 1) n + ((e2 - e1).toNat : Int) * wd (tB (tS T) (l + 1).toNat)) (wd (tB (tS T) (l + 1).toNat)) = false := by
    rw [n2, ← hval]
    exact lfb_f hx.2.2
  obtain ⟨c1, c2⟩ := NA_chd hw hN hna hP hlfb
  obtain ⟨⟨f3, f4, f6, f8, f8', f9, f1⟩, -⟩ := hna.2.2.2.2.2
  have f1' := (f1 _ hP hlfb).2.2
  have ec : c = M (p + 6) n + nK T (M (p + 1) n) (wd (tB (tS T) (l + 1).toNat)) (e2 - e1).toNat := num_inj hnum (l := l + 1) (by omega) hl1 hc.2.1.1 hc.2.1.2 c1.1.1 (by rw [show l + 1 + 1 = l + 2 by omega]; exact c1.1.2) (by rw [c1.2, n2, ← hval])
  rw [ec]
  exact f1'
theorem qMo_parentNode {n l : Int} (hw : tWF T) (hR : RL M r T) (ha : nAt T (M (r + 15)) (M (r + 14)) (M (r + 13)) n l) (h0 : l = 0 → Q (xI (-1)) M) (h1 : ∀ o : Int, 0 < l → nAt T (M (r + 15)) (M (r + 14)) (M (r + 13)) o (l - 1) → M (r + 14) o = M (r + 14) n - M (r + 14) n % wd (tB (tS T) (l - 1).toNat) → Q (xI o) M) (hex : 0 < l → ∃ o : Int, M (r + 15) (l - 1) ≤ o ∧ o < M (r + 15) l ∧ M (r + 14) o = M (r + 14) n - M (r + 14) n % wd (tB (tS T) (l - 1).toNat)) : Ru (d + 2) kMo_parentNode 0 [xO 9 r, xI n] [] M Q := by
  have hnum := RL_num hw hR
  have hb := num_bd hnum ha
  have hb2 := RL_b hw hR
  have hz := hw.2.2.2.2.2.1
  have hl := ha.1
  have hv := ha.2.2.2.1.2
  have wp := wd_pos (tB (tS T) l.toNat)
  refine vMo_parentNode_0 ?_
  rw [ha.2.2.1]
  refine ⟨by omega, fun y => ⟨by omega, by omega, ?_⟩, fun y => vMo_parentNode_31 (h0 (by omega))⟩
  rw [z32_id (by omega) (by omega)]
  refine qMo_nodeAt hw hR (by omega) (by omega) hv.1 (by omega) (fun o o0 o1 o2 => vMo_parentNode_31 (h1 o (by omega) (num_nd hw hnum (by omega) (by omega) o0 o1) o2)) (fun z => ?_)
  obtain ⟨o, o0, o1, o2⟩ := hex (by omega)
  exact absurd o2 (z o o0 (by rw [show l - 1 + 1 = l by omega]; exact o1))
theorem qMo_steps {A k : Nat} (hw : tWF T) (hR : RL M r T) (hA : (A : Int) = stp T (M (r + 15)) (tZ T).toNat) (h0 : 2 ^ k ≤ A) (h1 : A < 2 ^ (k + 1)) (hk2 : 32 ≤ k) (hk : k ≤ 52) (h : Q (xL (((k + 991) * 4503599627370496 + (A * 2 ^ (52 - k) - 4503599627370496) : Nat) : Int)) M) : Ru (d + 1) kMo_steps 0 [xO 9 r, xU, xU, xU] [] M Q := by
  have hnum := RL_num hw hR
  have hb2 := RL_b hw hR
  have hz := hw.2.2.2.2.2.1
  refine vMo_steps_0 (loop_up (M r 15) (P := fun n => 0 ≤ n → Ru (d + 1) kMo_steps 4 [xO 9 r, xL (sWd T (M (r + 13)) n.toNat), xU, xI n] [] M Q) (fun n hn ih n0 => ?_) 0 (by omega) (by decide))
  have sb := sWd_b hw hnum n.toNat (by omega)
  refine vMo_steps_4 ⟨fun y => ?_, fun y => ⟨by omega, ?_⟩⟩
  · have e := sWd_stp hw hnum (tZ T).toNat (by omega)
    rw [show ((tZ T).toNat : Int) = tZ T by omega, hnum.1.2.2] at e
    rw [show n = M r 15 by omega, e, ← hA, ddiv_eq h0 h1 hk hk2]
    have hc := fp_c h0 h1 hk
    have hlt : (k + 991) * 4503599627370496 + (A * 2 ^ (52 - k) - 4503599627370496) < 9218868437227405312 := by omega
    exact ⟨dok_eq hlt, dok_eq hlt, by rw [d2l_eq (by omega)]; exact h⟩
  · obtain ⟨l, hl⟩ := num_at hw hnum n0 (show n < M r 15 by omega)
    have hl0 := hl.1
    have hbt := tB_hi hw (l := l) hl0.1 (by omega)
    have wl := wd_le (n := tB (tS T) l.toNat) (by omega)
    have wp := wd_pos (tB (tS T) l.toNat)
    rw [hl.2.2.1]
    refine qMo_lengthAt hw hR.1 (Or.inl rfl) hl0.1 (by omega) (vMo_steps_24 (qMo_sizeOf (by omega) (by omega) (vMo_steps_27 ?_)))
    have ih' := ih (n + 1) (by omega) (by omega) (by omega)
    rw [sWd_s n0, hl.2.2.1] at ih'
    rw [z32_id (x := n + 1) (by omega) (by omega), z64_id (by omega) (by omega)]
    exact ih'
end NodeSums2

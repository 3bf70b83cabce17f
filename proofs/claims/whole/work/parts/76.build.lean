/-! THE CLASS BUILDS ITS NODES. -/
theorem FN_fr {M N : xM} {p n l v c s : Int} {T : TB} (h : FN M p T n l v c s) (e3 : N (p + 3) n = M (p + 3) n) (e4 : N (p + 4) n = M (p + 4) n) (e6 : N (p + 6) n = M (p + 6) n) (e8 : N (p + 8) n = M (p + 8) n) (e8' : N (p + 8) (n + 1) = M (p + 8) (n + 1)) (e9 : ∀ j : Int, j < s + nN T v (wd (tB (tS T) (l + 1).toNat)) (2 ^ (tS T l).toNat) → N (p + 9) j = M (p + 9) j ∧ N (p + 10) j = M (p + 10) j) (e1 : ∀ j : Int, j < c + nK T v (wd (tB (tS T) (l + 1).toNat)) (2 ^ (tS T l).toNat) → N (p + 1) j = M (p + 1) j ∧ N (p + 2) j = M (p + 2) j ∧ N (p + 5) j = M (p + 5) j) : FN N p T n l v c s := by
  obtain ⟨h1, h2, h3, h4, h5, h6, h7⟩ := h
  refine ⟨e3.trans h1, e4.trans h2, e6.trans h3, e8.trans h4, e8'.trans h5, fun q q1 hq => ?_, fun q q1 hq => ?_⟩
  · have := nN_mono (T := T) (v := v) (z := wd (tB (tS T) (l + 1).toNat)) (j := q + 1) (k := 2 ^ (tS T l).toNat) (by omega)
    rw [nN_y hq] at this
    obtain ⟨a, b⟩ := e9 (s + nN T v (wd (tB (tS T) (l + 1).toNat)) q) (by omega)
    rw [a, b]; exact h6 q q1 hq
  · have := nK_mono (T := T) (v := v) (z := wd (tB (tS T) (l + 1).toNat)) (j := q + 1) (k := 2 ^ (tS T l).toNat) (by omega)
    rw [nK_n hq] at this
    obtain ⟨a, b, c9⟩ := e1 (c + nK T v (wd (tB (tS T) (l + 1).toNat)) q) (by omega)
    rw [a, b, c9]; exact h7 q q1 hq
/-- what a filled node is, with its children's and its ways' places -/
def FD (M : xM) (p : Int) (T : TB) (n l a b : Int) : Prop := FN M p T n l (M (p + 1) n) (M (p + 6) n) (M (p + 8) n) ∧ a ≤ M (p + 6) n ∧ M (p + 6) n + nK T (M (p + 1) n) (wd (tB (tS T) (l + 1).toNat)) (2 ^ (tS T l).toNat) ≤ b ∧ 0 ≤ M (p + 8) n ∧ M (p + 8) (n + 1) ≤ M p 16
/-- the nodes of the class -/
def NT (M : xM) (p : Int) (T : TB) : Prop := (M p 15 = tZ T ∧ (∀ l : Int, 0 ≤ l → l < tZ T → M (p + 14) l = tS T l) ∧ ∀ l : Int, 0 ≤ l → l ≤ tZ T → M (p + 13) l = tB (tS T) l.toNat) ∧ (M (p + 12) 0 = 0 ∧ M (p + 12) 1 = 1 ∧ M (p + 12) (tZ T) = M p 0 ∧ M p 0 ≤ 901 ∧ M p 16 ≤ 2837) ∧ (M (p + 1) 0 = 0 ∧ M (p + 2) 0 = 0 ∧ M (p + 5) 0 = -1) ∧ (∀ l : Int, 1 ≤ l → l < tZ T → seqS (M (p + 1)) (M (p + 12) l) (M (p + 12) (l + 1)) (NDT T (tB (tS T) l.toNat))) ∧ ∀ l : Int, 0 ≤ l → l < tZ T → M (p + 12) l ≤ M (p + 12) (l + 1) ∧ ∀ n : Int, M (p + 12) l ≤ n → n < M (p + 12) (l + 1) → M (p + 2) n = l ∧ FD M p T n l (M (p + 12) (l + 1)) (if l + 1 < tZ T then M (p + 12) (l + 2) else M p 0)
/-- while nodes are built: level l, up to node n; behind the level's nodes: bh -/
def BI (M0 M : xM) (p p2 : Int) (T : TB) (l n bh : Int) : Prop :=
  (M p 15 = tZ T ∧ (∀ j : Int, 0 ≤ j → j < tZ T → M (p + 14) j = tS T j) ∧ ∀ j : Int, 0 ≤ j → j ≤ tZ T → M (p + 13) j = tB (tS T) j.toNat) ∧
  (M (p + 12) 0 = 0 ∧ M (p + 12) 1 = 1 ∧ M (p + 12) (l + 1) = bh ∧ (M (p + 12) l ≤ n ∧ n ≤ bh ∧ bh ≤ M p 0) ∧ bh ≤ 1 + 60 * l) ∧
  (M (p + 1) 0 = 0 ∧ M (p + 2) 0 = 0 ∧ M (p + 5) 0 = -1) ∧
  (∀ j : Int, 1 ≤ j → j ≤ l → seqS (M (p + 1)) (M (p + 12) j) (M (p + 12) (j + 1)) (NDT T (tB (tS T) j.toNat))) ∧
  (∀ j : Int, 0 ≤ j → j ≤ l → 0 ≤ M (p + 12) j ∧ M (p + 12) j ≤ M (p + 12) (j + 1) ∧ M (p + 12) (j + 1) ≤ bh ∧ ∀ i : Int, M (p + 12) j ≤ i → i < M (p + 12) (j + 1) → M (p + 2) i = j ∧ (j < l → FD M p T i j (M (p + 12) (j + 1)) (M (p + 12) (j + 2))) ∧ (j = l → i < n → FD M p T i l bh (M p 0))) ∧
  (seqS (M (p + 1)) bh (M p 0) (fun x => x % wd (tB (tS T) (l + 1).toNat) = 0 ∧ ¬ lfp T x (wd (tB (tS T) (l + 1).toNat)) ∧ ∃ i : Int, M (p + 12) l ≤ i ∧ i < n ∧ M (p + 1) i ≤ x ∧ x < M (p + 1) i + wd (tB (tS T) l.toNat)) ∧ ∀ j : Int, bh ≤ j → j < M p 0 → M (p + 2) j = l + 1) ∧
  (∀ j : Int, n ≤ j → j < M p 0 → M (p + 3) j = 0 ∧ M (p + 4) j = 0 ∧ (0 ≤ M (p + 11) j ∧ M (p + 11) j < M0 p2 0) ∧ M0 (p2 + 1) (M (p + 11) j) ≤ M (p + 1) j ∧ M (p + 1) j < nxF (M0 (p2 + 1)) (M0 p2 0) (M (p + 11) j)) ∧
  ((0 < n → M (p + 8) n = M p 16) ∧ 0 ≤ M p 16 ∧ ∃ e : Int, 0 ≤ e ∧ e < M0 p2 0 ∧ M p 16 ≤ n + 121 * l + e ∧ (n < bh → M0 (p2 + 1) e ≤ M (p + 1) n)) ∧
  (M p 0 - bh ≤ 60 ∧ (n < bh → M p 0 - bh ≤ cr T (M (p + 1) n))) ∧
  ∀ b j : Int, ¬ (p ≤ b ∧ b ≤ p + 14) → M b j = M0 b j
theorem rows_mono {T : TB} {m : Int} {F K : Int → Int} (h : isRows T m F K) {i j a : Int} (i0 : 0 ≤ i) (i1 : i < m) (j0 : 0 ≤ j) (hi : F i ≤ a) (hj : a < nxF F m j) : i ≤ j := by
  refine Classical.byContradiction fun hc => ?_
  rw [nxF_in (by omega)] at hj
  rcases (show j + 1 = i ∨ j + 1 < i by omega) with e | e
  · rw [e] at hj; omega
  · have := rows_lt h (i := j + 1) (j := i) (by omega) e i1
    omega
/-- a level's node has its place among all addresses -/
theorem BI_nd {M0 M : xM} {p p2 l n bh : Int} {T : TB} (hw : tWF T) (h : BI M0 M p p2 T l n bh) (l0 : 0 ≤ l) (l1 : l < tZ T) {i : Int} (i0 : M (p + 12) l ≤ i) (i1 : i < bh) : ndOk T l (M (p + 1) i) ∧ M (p + 1) i % wd (tB (tS T) l.toNat) = 0 := by
  have hb := tB_hi hw (l := l) l0 (by omega)
  have wp := wd_pos (tB (tS T) l.toNat)
  by_cases e : l = 0
  · subst e
    have h2 := h.2.1
    have hi : i = 0 := by
      have := h2.1
      have := h2.2.1
      have h3 := h2.2.2.1
      rw [show (0 : Int) + 1 = 1 by omega] at h3
      omega
    rw [hi, h.2.2.1.1]
    refine ⟨⟨⟨Int.le_refl _, l1⟩, Int.le_refl _, ?_⟩, Int.zero_emod _⟩
    show 0 + wd 0 ≤ 4294967296
    rw [wd_0]
    omega
  · have hs := h.2.2.2.1 l (by omega) (Int.le_refl _)
    rw [h.2.1.2.2.1] at hs
    obtain ⟨hx, hm, -⟩ := hs.2.2.1 i i0 i1
    have hd0 : wd (tB (tS T) l.toNat) ∣ 4294967296 := by rw [← wd_0]; exact wd_dvd (by omega)
    have := Int.le_of_dvd (by omega) (Int.dvd_sub hd0 (Int.dvd_of_emod_eq_zero hm))
    exact ⟨⟨⟨l0, l1⟩, hx.1, by omega⟩, hm⟩
/-- the nodes of a level lie apart -/
theorem BI_ap {M0 M : xM} {p p2 l n bh : Int} {T : TB} (hw : tWF T) (h : BI M0 M p p2 T l n bh) (l0 : 0 ≤ l) (l1 : l < tZ T) {i j : Int} (i0 : M (p + 12) l ≤ i) (ij : i < j) (j1 : j < bh) : M (p + 1) i + wd (tB (tS T) l.toNat) ≤ M (p + 1) j := by
  have hi := (BI_nd hw h l0 l1 i0 (by omega)).2
  have hj := (BI_nd hw h l0 l1 (i := j) (by omega) j1).2
  have e : ¬ l = 0 := fun e => by
    subst e
    have h2 := h.2.1
    have := h2.1
    have := h2.2.1
    have h3 := h2.2.2.1
    rw [show (0 : Int) + 1 = 1 by omega] at h3
    omega
  have hs := h.2.2.2.1 l (by omega) (Int.le_refl _)
  rw [h.2.1.2.2.1] at hs
  have := hs.2.1 i j i0 ij j1
  have := Int.le_of_dvd (by omega) (Int.dvd_sub (Int.dvd_of_emod_eq_zero hj) (Int.dvd_of_emod_eq_zero hi))
  omega
theorem BI_fill {M0 M N : xM} {p p2 l n bh s c e0 e : Int} {T : TB} (hw : tWF T) (hS : SR M0 p2 T) (h : BI M0 M p p2 T l n bh) (l0 : 0 ≤ l) (l1 : l < tZ T) (nb : n < bh) (hc : M p 0 = c) (hs : M p 16 = s) (he0 : M (p + 11) n = e0)
    (g1 : FN N p T n l (M (p + 1) n) c s) (g2 : N p 0 = c + nK T (M (p + 1) n) (wd (tB (tS T) (l + 1).toNat)) (2 ^ (tS T l).toNat)) (g3 : N p 16 = s + nN T (M (p + 1) n) (wd (tB (tS T) (l + 1).toNat)) (2 ^ (tS T l).toNat)) (g4 : e0 ≤ e ∧ e < M0 p2 0 ∧ M0 (p2 + 1) e < M (p + 1) n + wd (tB (tS T) l.toNat)) (g5 : N p 16 ≤ s + 1 + (e - e0))
    (g6 : ∀ j : Int, c ≤ j → j < N p 0 → N (p + 3) j = 0 ∧ N (p + 4) j = 0 ∧ (0 ≤ N (p + 11) j ∧ N (p + 11) j < M0 p2 0) ∧ M0 (p2 + 1) (N (p + 11) j) ≤ N (p + 1) j ∧ N (p + 1) j < nxF (M0 (p2 + 1)) (M0 p2 0) (N (p + 11) j))
    (hf : ∀ b j : Int, ¬ (b = p ∧ (j = 0 ∨ j = 16)) → ¬ ((b = p + 1 ∨ b = p + 2 ∨ b = p + 5 ∨ b = p + 11) ∧ c ≤ j) → ¬ ((b = p + 3 ∨ b = p + 4) ∧ (j = n ∨ c ≤ j)) → ¬ (b = p + 6 ∧ j = n) → ¬ (b = p + 8 ∧ (j = n ∨ j = n + 1)) → ¬ ((b = p + 9 ∨ b = p + 10) ∧ s ≤ j) → N b j = M b j) : BI M0 N p p2 T l (n + 1) bh := by
  obtain ⟨hnd, hal⟩ := BI_nd hw h l0 l1 (i := n) (by have := h.2.1.2.2.2.1; omega) nb
  have hap := fun {i j : Int} (i0 : M (p + 12) l ≤ i) (ij : i < j) (j1 : j < bh) => BI_ap hw h l0 l1 i0 ij j1
  have hwz := (nd_sl hw hnd).1
  have zp := wd_pos (tB (tS T) (l + 1).toNat)
  have Wp := wd_pos (tB (tS T) l.toNat)
  have hb1 := tB_hi hw (l := l + 1) (by omega) (by omega)
  have hcr := nK_cr hw (v := M (p + 1) n) (b := tB (tS T) (l + 1).toNat) (by omega) hnd.2.1 (mod_dvd hal (by rw [hwz]; exact ⟨_, Int.mul_comm _ _⟩)) (2 ^ (tS T l).toNat) (by
    have : ((2 ^ (tS T l).toNat : Nat) : Int) * wd (tB (tS T) (l + 1).toNat) = wd (tB (tS T) l.toNat) := by rw [hwz, p2i]
    rw [this]; exact hnd.2.2)
  have eW : ((2 ^ (tS T l).toNat : Nat) : Int) * wd (tB (tS T) (l + 1).toNat) = wd (tB (tS T) l.toNat) := by rw [hwz, p2i]
  rw [eW] at hcr
  have hk := kids (T := T) (N := N) (p := p) (c := c) (l := l + 1) (n := n) (v := M (p + 1) n) (z := wd (tB (tS T) (l + 1).toNat)) (W := wd (tB (tS T) l.toNat)) (P := 2 ^ (tS T l).toNat) zp hnd.2.1 hnd.2.2 eW.symm (mod_dvd hal (by rw [hwz]; exact ⟨_, Int.mul_comm _ _⟩)) g1.2.2.2.2.2.2
  have kb := nK_b T (M (p + 1) n) (wd (tB (tS T) (l + 1).toNat)) (2 ^ (tS T l).toNat)
  have nnb := nN_b T (M (p + 1) n) (wd (tB (tS T) (l + 1).toNat)) (2 ^ (tS T l).toNat)
  obtain ⟨⟨a1, a2, a3⟩, ⟨b1, b2, b3, b4, b5⟩, ⟨c1, c2, c3⟩, d1, d2, ⟨d3, d4⟩, d5, ⟨f1, f2, f3⟩, ⟨f4, f5⟩, f6⟩ := h
  -- what stays
  have k12 : ∀ j : Int, N (p + 12) j = M (p + 12) j := fun j => hf _ _ (by omega) (by omega) (by omega) (by omega) (by omega) (by omega)
  have k1 : ∀ j : Int, j < c → N (p + 1) j = M (p + 1) j := fun j hj => hf _ _ (by omega) (by omega) (by omega) (by omega) (by omega) (by omega)
  have k2 : ∀ j : Int, j < c → N (p + 2) j = M (p + 2) j := fun j hj => hf _ _ (by omega) (by omega) (by omega) (by omega) (by omega) (by omega)
  have k5 : ∀ j : Int, j < c → N (p + 5) j = M (p + 5) j := fun j hj => hf _ _ (by omega) (by omega) (by omega) (by omega) (by omega) (by omega)
  have k6 : ∀ j : Int, ¬ j = n → N (p + 6) j = M (p + 6) j := fun j hj => hf _ _ (by omega) (by omega) (by omega) (by omega) (by omega) (by omega)
  have n0 : 0 ≤ n := by have := (d2 l l0 (Int.le_refl _)).1; omega
  have k8 : ∀ j : Int, 0 ≤ j → j ≤ n → N (p + 8) j = M (p + 8) j ∨ j = 0 := fun j j0 hj => by
    rcases (show j = n ∨ j < n by omega) with u | u
    · by_cases z : j = 0
      · exact Or.inr z
      · rw [u, g1.2.2.2.1]; left; rw [f1 (by omega), hs]
    · left; exact hf _ _ (by omega) (by omega) (by omega) (by omega) (by omega) (by omega)
  have FDk : ∀ i l2 a b : Int, 0 ≤ i → i < n → b ≤ c → FD M p T i l2 a b → FD N p T i l2 a b := by
    intro i l2 a b i0 in1 hbc hF
    obtain ⟨q1, q2, q3, q4, q5⟩ := hF
    have e8 : N (p + 8) i = M (p + 8) i := by
      rcases k8 i i0 (by omega) with u | u
      · exact u
      · exact hf _ _ (by omega) (by omega) (by omega) (by omega) (by omega) (by omega)
    have e8' : N (p + 8) (i + 1) = M (p + 8) (i + 1) := by
      rcases k8 (i + 1) (by omega) (by omega) with u | u
      · exact u
      · omega
    have e1 := k1 i (by omega)
    have e6 := k6 i (by omega)
    refine ⟨?_, by rw [e6]; exact q2, by rw [e6, e1]; exact q3, by rw [e8]; exact q4, by rw [e8', g3]; omega⟩
    rw [e1, e6, e8]
    have h5 := q1.2.2.2.2.1
    exact FN_fr q1 (hf _ _ (by omega) (by omega) (by omega) (by omega) (by omega) (by omega)) (hf _ _ (by omega) (by omega) (by omega) (by omega) (by omega) (by omega)) e6 e8 e8' (fun j hj => ⟨hf _ _ (by omega) (by omega) (by omega) (by omega) (by omega) (by omega), hf _ _ (by omega) (by omega) (by omega) (by omega) (by omega) (by omega)⟩) (fun j hj => ⟨k1 j (by omega), k2 j (by omega), k5 j (by omega)⟩)
  have hvn : N (p + 1) n = M (p + 1) n := k1 n (by omega)
  refine ⟨⟨?_, fun j j0 j1 => ?_, fun j j0 j1 => ?_⟩, ⟨by rw [k12]; exact b1, by rw [k12]; exact b2, by rw [k12]; exact b3, by rw [k12]; omega, b5⟩, ⟨by rw [k1 0 (by omega)]; exact c1, by rw [k2 0 (by omega)]; exact c2, by rw [k5 0 (by omega)]; exact c3⟩, fun j j0 j1 => ?_, fun j j0 j1 => ?_, ⟨?_, fun j j0 j1 => ?_⟩, fun j j0 j1 => ?_, ⟨fun _ => ?_, by omega, ?_⟩, ⟨?_, fun z => ?_⟩, fun b j hb => ?_⟩
  · rw [hf _ _ (by omega) (by omega) (by omega) (by omega) (by omega) (by omega)]; exact a1
  · rw [hf _ _ (by omega) (by omega) (by omega) (by omega) (by omega) (by omega)]; exact a2 j j0 j1
  · rw [hf _ _ (by omega) (by omega) (by omega) (by omega) (by omega) (by omega)]; exact a3 j j0 j1
  · rw [k12, k12]
    have := (d2 j (by omega) j1).2.2.1
    exact seqS_f (d1 j j0 j1) (fun i i0 i1 => (k1 i (by omega)).symm)
  · rw [k12, k12, k12]
    obtain ⟨r1, r2, r3, r4⟩ := d2 j j0 j1
    refine ⟨r1, r2, r3, fun i i0 i1 => ?_⟩
    obtain ⟨t1, t2, t3⟩ := r4 i i0 i1
    refine ⟨by rw [k2 i (by omega)]; exact t1, fun z => ?_, fun z z2 => ?_⟩
    · have hle : M (p + 12) (j + 2) ≤ bh := by
        have := (d2 (j + 1) (by omega) (by omega)).2.2.1
        rw [show j + 1 + 1 = j + 2 by omega] at this
        exact this
      have hil : i < n := by
        -- a node of an earlier level
        have : M (p + 12) (j + 1) ≤ M (p + 12) l := by
          refine loop_dn (j + 1) (P := fun y => y ≤ l → M (p + 12) (j + 1) ≤ M (p + 12) y) (fun y hy ihy hyl => ?_) l (by omega) (Int.le_refl _)
          by_cases ey : y = j + 1
          · rw [ey]; exact Int.le_refl _
          · have u1 := ihy (y - 1) (by omega) (by omega) (by omega)
            have u2 := (d2 (y - 1) (by omega) (by omega)).2.1
            rw [show y - 1 + 1 = y by omega] at u2
            omega
        omega
      exact FDk i j _ _ (by omega) hil (by omega) (t2 z)
    · subst z
      rcases (show i < n ∨ i = n by omega) with u | u
      · have q := FDk i j bh c (by omega) u (Int.le_refl _) (by rw [← hc]; exact t3 rfl u)
        exact ⟨q.1, q.2.1, by have := q.2.2.1; omega, q.2.2.2⟩
      · subst u
        refine ⟨?_, ?_, ?_, ?_, ?_⟩
        · rw [hvn, g1.2.2.1, g1.2.2.2.1]; exact g1
        · rw [g1.2.2.1]; omega
        · rw [g1.2.2.1, hvn]; omega
        · rw [g1.2.2.2.1]; omega
        · rw [g1.2.2.2.2.1, g3]; exact Int.le_refl _
  · rw [g2, k12]
    have h1 : seqS (N (p + 1)) bh c (fun x => x % wd (tB (tS T) (l + 1).toNat) = 0 ∧ ¬ lfp T x (wd (tB (tS T) (l + 1).toNat)) ∧ ∃ i : Int, M (p + 12) l ≤ i ∧ i < n ∧ M (p + 1) i ≤ x ∧ x < M (p + 1) i + wd (tB (tS T) l.toNat)) := by
      rw [hc] at d3
      exact seqS_f d3 (fun i i0 i1 => (k1 i (by omega)).symm)
    refine seqS_S (seqS_app h1 hk.1 (fun x y hx hy => ?_)) (fun x => ⟨fun z => ?_, fun z => ?_⟩)
    · obtain ⟨-, -, i, i0, i1, i2, i3⟩ := hx
      have := hap i0 i1 nb
      have := hy.2.2.1
      omega
    · rcases z with ⟨z1, z2, i, i0, i1, i2, i3⟩ | ⟨z1, z2, z3, z4⟩
      · exact ⟨z1, z2, i, i0, by omega, by rw [k1 i (by omega)]; exact i2, by rw [k1 i (by omega)]; exact i3⟩
      · exact ⟨z1, z2, n, b4.1, by omega, by rw [hvn]; exact z3, by rw [hvn]; exact z4⟩
    · obtain ⟨z1, z2, i, i0, i1, i2, i3⟩ := z
      rw [k1 i (by omega)] at i2 i3
      rcases (show i < n ∨ i = n by omega) with u | u
      · exact Or.inl ⟨z1, z2, i, i0, u, i2, i3⟩
      · rw [u] at i2 i3; exact Or.inr ⟨z1, z2, i2, i3⟩
  · rcases (show j < c ∨ c ≤ j by omega) with u | u
    · rw [k2 j u]; exact d4 j j0 (by omega)
    · exact (hk.2 j u (by omega)).1
  · rcases (show j < c ∨ c ≤ j by omega) with u | u
    · have := d5 j (by omega) (by omega)
      rw [hf (p + 3) j (by omega) (by omega) (by omega) (by omega) (by omega) (by omega), hf (p + 4) j (by omega) (by omega) (by omega) (by omega) (by omega) (by omega), hf (p + 11) j (by omega) (by omega) (by omega) (by omega) (by omega) (by omega), k1 j u]
      exact this
    · exact g6 j u j1
  · rw [g1.2.2.2.2.1, g3]
  · obtain ⟨e9, e90, e91, e92, e93⟩ := f3
    have he := d5 n (Int.le_refl _) (by omega)
    rw [he0] at he
    have hmono : e9 ≤ e0 := rows_mono hS.1 e90 e91 he.2.2.1.1 (e93 nb) he.2.2.2.2
    refine ⟨e, by omega, g4.2.1, by omega, fun z => ?_⟩
    rw [k1 (n + 1) (by omega)]
    have := hap (i := n) (j := n + 1) b4.1 (by omega) z
    omega
  · have := cr_b hw (M (p + 1) n + wd (tB (tS T) l.toNat))
    have := f5 nb
    omega
  · rw [k1 (n + 1) (by omega)]
    have h1 := hap (i := n) (j := n + 1) b4.1 (by omega) z
    have h2 := cr_mono (T := T) h1
    have := f5 nb
    omega
  · rw [hf _ _ (by omega) (by omega) (by omega) (by omega) (by omega) (by omega)]; exact f6 b j hb

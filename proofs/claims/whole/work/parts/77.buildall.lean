/-! THE CLASS BUILDS ITS NODES: all levels. -/
/-- a level begins -/
def LI (M0 M : xM) (p p2 : Int) (T : TB) (l : Int) : Prop :=
  (M p 15 = tZ T ∧ (∀ j : Int, 0 ≤ j → j < tZ T → M (p + 14) j = tS T j) ∧ ∀ j : Int, 0 ≤ j → j ≤ tZ T → M (p + 13) j = tB (tS T) j.toNat) ∧
  (M (p + 12) 0 = 0 ∧ (1 ≤ l → M (p + 12) 1 = 1) ∧ (0 ≤ M (p + 12) l ∧ M (p + 12) l ≤ M p 0) ∧ (l = 0 → M p 0 = 1) ∧ M p 0 ≤ 1 + 60 * l ∧ (1 ≤ l → M (p + 12) l ≤ 1 + 60 * (l - 1))) ∧
  (M (p + 1) 0 = 0 ∧ M (p + 2) 0 = 0 ∧ M (p + 5) 0 = -1) ∧
  (∀ j : Int, 1 ≤ j → j < l → seqS (M (p + 1)) (M (p + 12) j) (M (p + 12) (j + 1)) (NDT T (tB (tS T) j.toNat))) ∧
  (∀ j : Int, 0 ≤ j → j < l → 0 ≤ M (p + 12) j ∧ M (p + 12) j ≤ M (p + 12) (j + 1) ∧ M (p + 12) (j + 1) ≤ M p 0 ∧ ∀ i : Int, M (p + 12) j ≤ i → i < M (p + 12) (j + 1) → M (p + 2) i = j ∧ FD M p T i j (M (p + 12) (j + 1)) (if j + 1 < l then M (p + 12) (j + 2) else M p 0)) ∧
  ((1 ≤ l → seqS (M (p + 1)) (M (p + 12) l) (M p 0) (NDT T (tB (tS T) l.toNat))) ∧ ∀ j : Int, M (p + 12) l ≤ j → j < M p 0 → M (p + 2) j = l) ∧
  (∀ j : Int, M (p + 12) l ≤ j → j < M p 0 → M (p + 3) j = 0 ∧ M (p + 4) j = 0 ∧ (0 ≤ M (p + 11) j ∧ M (p + 11) j < M0 p2 0) ∧ M0 (p2 + 1) (M (p + 11) j) ≤ M (p + 1) j ∧ M (p + 1) j < nxF (M0 (p2 + 1)) (M0 p2 0) (M (p + 11) j)) ∧
  ((0 < M (p + 12) l → M (p + 8) (M (p + 12) l) = M p 16) ∧ 0 ≤ M p 16 ∧ M p 16 ≤ M (p + 12) l + 121 * l) ∧
  ∀ b j : Int, ¬ (p ≤ b ∧ b ≤ p + 14) → M b j = M0 b j
theorem FD_up {M : xM} {p n l a b x : Int} {T : TB} {i v : Int} (h : FD M p T n l a b) (hb : b ≤ x) : FD (up M (p + 12) i v) p T n l a x := by
  have e1 : ∀ c j : Int, ¬ c = p + 12 → up M (p + 12) i v c j = M c j := fun c j hc => up_ne hc
  obtain ⟨q1, q2, q3, q4, q5⟩ := h
  refine ⟨?_, by rw [e1 _ _ (by omega)]; exact q2, by rw [e1 _ _ (by omega), e1 _ _ (by omega)]; omega, by rw [e1 _ _ (by omega)]; exact q4, by rw [e1 _ _ (by omega), e1 _ _ (by omega)]; exact q5⟩
  rw [e1 (p + 1) n (by omega), e1 (p + 6) n (by omega), e1 (p + 8) n (by omega)]
  exact FN_fr q1 (e1 _ _ (by omega)) (e1 _ _ (by omega)) (e1 _ _ (by omega)) (e1 _ _ (by omega)) (e1 _ _ (by omega)) (fun j _ => ⟨e1 _ _ (by omega), e1 _ _ (by omega)⟩) (fun j _ => ⟨e1 _ _ (by omega), e1 _ _ (by omega), e1 _ _ (by omega)⟩)
theorem LI_BI {M0 M : xM} {p p2 l : Int} {T : TB} (hS : SR M0 p2 T) (h : LI M0 M p p2 T l) (l0 : 0 ≤ l) : BI M0 (up M (p + 12) (l + 1) (M p 0)) p p2 T l (M (p + 12) l) (M p 0) := by
  obtain ⟨⟨a1, a2, a3⟩, ⟨b1, b2, b3, b4, b5, b6⟩, ⟨c1, c2, c3⟩, d1, d2, ⟨d3, d4⟩, d5, ⟨f1, f2, f3⟩, f6⟩ := h
  have hm1 := hS.1.1
  have hF0 := hS.1.2.1
  have e1 : ∀ c j : Int, ¬ c = p + 12 → up M (p + 12) (l + 1) (M p 0) c j = M c j := fun c j hc => up_ne hc
  have eL : ∀ j : Int, ¬ j = l + 1 → up M (p + 12) (l + 1) (M p 0) (p + 12) j = M (p + 12) j := fun j hj => up_off hj
  have e12 : up M (p + 12) (l + 1) (M p 0) (p + 12) (l + 1) = M p 0 := up_same
  have ef1 : up M (p + 12) (l + 1) (M p 0) (p + 1) = M (p + 1) := funext fun j => e1 _ _ (by omega)
  refine ⟨⟨by rw [e1 _ _ (by omega)]; exact a1, fun j j0 j1 => by rw [e1 _ _ (by omega)]; exact a2 j j0 j1, fun j j0 j1 => by rw [e1 _ _ (by omega)]; exact a3 j j0 j1⟩, ⟨by rw [eL 0 (by omega)]; exact b1, ?_, e12, by rw [eL l (by omega), e1 p 0 (by omega)]; omega, b5⟩, ⟨by rw [ef1]; exact c1, by rw [e1 _ _ (by omega)]; exact c2, by rw [e1 _ _ (by omega)]; exact c3⟩, fun j j0 j1 => ?_, fun j j0 j1 => ?_, ⟨?_, fun j j0 j1 => ?_⟩, fun j j0 j1 => ?_, ⟨fun z => ?_, by rw [e1 p 16 (by omega)]; exact f2, ⟨0, Int.le_refl _, by omega, by rw [e1 p 16 (by omega)]; omega, fun z => ?_⟩⟩, ⟨by rw [e1 p 0 (by omega)]; omega, fun z => ?_⟩, fun b j hb => by rw [e1 b j (by omega)]; exact f6 b j hb⟩
  · by_cases e : l = 0
    · rw [up_at rfl (by omega)]
      exact b4 e
    · rw [eL 1 (by omega)]; exact b2 (by omega)
  · rw [ef1, eL j (by omega)]
    by_cases e : j = l
    · subst e; rw [e12]; exact d3 (by omega)
    · rw [eL (j + 1) (by omega)]; exact d1 j j0 (by omega)
  · by_cases e : j = l
    · subst e
      rw [eL j (by omega), e12]
      refine ⟨b3.1, b3.2, Int.le_refl _, fun i i0 i1 => ⟨by rw [e1 _ _ (by omega)]; exact d4 i i0 i1, fun z => by omega, fun _ z => by omega⟩⟩
    · obtain ⟨r1, r2, r3, r4⟩ := d2 j j0 (by omega)
      rw [eL j (by omega), eL (j + 1) (by omega)]
      refine ⟨r1, r2, r3, fun i i0 i1 => ⟨by rw [e1 _ _ (by omega)]; exact (r4 i i0 i1).1, fun _ => FD_up (r4 i i0 i1).2 ?_, fun z => absurd z e⟩⟩
      by_cases e2 : j + 1 < l
      · rw [if_pos e2, eL (j + 2) (by omega)]; exact Int.le_refl _
      · rw [if_neg e2, show j + 2 = l + 1 by omega, e12]; exact Int.le_refl _
  · rw [e1 p 0 (by omega)]
    refine ⟨Int.le_refl _, fun i j i0 ij j1 => by omega, fun i i0 i1 => by omega, fun x hx => ?_⟩
    obtain ⟨-, -, i, i0, i1, -⟩ := hx
    rw [eL l (by omega)] at i0
    omega
  · rw [e1 p 0 (by omega)] at j1; omega
  · rw [e1 p 0 (by omega)] at j1
    rw [e1 _ _ (by omega), e1 _ _ (by omega), e1 _ _ (by omega), ef1]
    exact d5 j j0 j1
  · rw [e1 _ _ (by omega), e1 p 16 (by omega)]; exact f1 z
  · rw [hF0, ef1]
    have := d5 _ (Int.le_refl _) z
    have h9 := rows_in hS.1 (i := M (p + 11) (M (p + 12) l)) this.2.2.1.1 this.2.2.1.2
    omega
  · rw [e1 p 0 (by omega), ef1]
    have := cR_b T (M (p + 1) (M (p + 12) l)) (tN T).toNat
    unfold cr
    omega
theorem BI_LI {M0 M : xM} {p p2 l bh : Int} {T : TB} (hw : tWF T) (hm : M0 p2 0 ≤ 121) (h : BI M0 M p p2 T l bh bh) (l0 : 0 ≤ l) (l1 : l < tZ T) : LI M0 M p p2 T (l + 1) := by
  have hnd := fun {i : Int} (i0 : M (p + 12) l ≤ i) (i1 : i < bh) => BI_nd hw h l0 l1 i0 i1
  have hb1 := tB_hi hw (l := l + 1) (by omega) (by omega)
  have hb0 := tB_hi hw (l := l) l0 (by omega)
  have hmono := tB_mono hw (l := l) (k := l + 1) l0 (by omega) (by omega)
  obtain ⟨⟨a1, a2, a3⟩, ⟨b1, b2, b3, b4, b5⟩, ⟨c1, c2, c3⟩, d1, d2, ⟨d3, d4⟩, d5, ⟨f1, f2, f3⟩, ⟨f4, f5⟩, f6⟩ := h
  have hl := d2 l l0 (Int.le_refl _)
  refine ⟨⟨a1, a2, a3⟩, ⟨b1, fun _ => b2, by rw [b3]; omega, fun z => by omega, by omega, fun _ => by rw [b3]; omega⟩, ⟨c1, c2, c3⟩, fun j j0 j1 => d1 j j0 (by omega), fun j j0 j1 => ?_, ⟨fun _ => ?_, by rw [b3]; exact d4⟩, by rw [b3]; exact d5, ⟨fun z => ?_, f2, ?_⟩, f6⟩
  · obtain ⟨r1, r2, r3, r4⟩ := d2 j j0 (by omega)
    refine ⟨r1, r2, by omega, fun i i0 i1 => ⟨(r4 i i0 i1).1, ?_⟩⟩
    by_cases e : j = l
    · subst e
      rw [if_neg (by omega), b3]
      rw [b3] at i1
      exact (r4 i i0 (by rw [b3]; exact i1)).2.2 rfl i1
    · rw [if_pos (by omega)]
      exact (r4 i i0 i1).2.1 (by omega)
  · rw [b3]
    refine seqS_S d3 (fun x => ⟨fun z => ?_, fun z => ?_⟩)
    · obtain ⟨z1, z2, i, i0, i1, i2, i3⟩ := z
      obtain ⟨⟨-, q0, q1⟩, -⟩ := hnd i0 i1
      exact ⟨⟨by omega, by omega⟩, z1, z2⟩
    · obtain ⟨u1, u2, u3⟩ := NDT_up (b := tB (tS T) l.toNat) (by omega) (by omega) z
      refine ⟨z.2.1, z.2.2, ?_⟩
      by_cases e : l = 0
      · subst e
        have hb2 : bh = 1 := by rw [← b3, show (0 : Int) + 1 = 1 by omega]; exact b2
        refine ⟨0, by rw [b1]; exact Int.le_refl _, by omega, by rw [c1]; exact z.1.1, ?_⟩
        rw [c1]
        show x < 0 + wd 0
        rw [wd_0]
        have := z.1.2
        omega
      · obtain ⟨i, i0, i1, i2⟩ := (d1 l (by omega) (Int.le_refl _)).2.2.2 _ u1
        rw [b3] at i1
        exact ⟨i, i0, i1, by rw [i2]; exact u2, by rw [i2]; exact u3⟩
  · rw [b3] at z ⊢; exact f1 z
  · obtain ⟨e, e0, e1, e2, -⟩ := f3
    rw [b3]
    omega
theorem LI_NT {M0 M : xM} {p p2 : Int} {T : TB} (hw : tWF T) (h : LI M0 M p p2 T (tZ T)) (hst : M p 16 ≤ 2837) : NT M p T ∧ ∀ b j : Int, ¬ (p ≤ b ∧ b ≤ p + 14) → M b j = M0 b j := by
  have hZ := tWF_Z hw
  have hZ1 := hw.2.2.2.2.2.1
  obtain ⟨⟨a1, a2, a3⟩, ⟨b1, b2, b3, b4, b5, b6⟩, ⟨c1, c2, c3⟩, d1, d2, ⟨d3, d4⟩, d5, ⟨f1, f2, f3⟩, f6⟩ := h
  have hend : M (p + 12) (tZ T) = M p 0 := by
    have hs := d3 (by omega)
    rw [hw.2.2.2.2.2.2.2] at hs
    refine Classical.byContradiction fun hc => ?_
    exact NDT_32 (hs.2.2.1 (M (p + 12) (tZ T)) (Int.le_refl _) (by omega))
  refine ⟨⟨⟨a1, a2, a3⟩, ⟨b1, b2 (by omega), hend, ?_, hst⟩, ⟨c1, c2, c3⟩, d1, fun l l0 l1 => ?_⟩, f6⟩
  · have := b6 (by omega)
    omega
  · obtain ⟨r1, r2, r3, r4⟩ := d2 l l0 l1
    exact ⟨r2, r4⟩
theorem nK_1 {T : TB} {v : Int} : ∀ q : Nat, nK T v 1 q = 0
  | 0 => rfl
  | q + 1 => by
    rw [nK_y (lfb_t (fun a a0 a1 => by rw [show a = v + (q : Int) * 1 by omega]))]
    exact nK_1 q
theorem qNodes_build {d : Nat} {M : xM} {Q : xQ} {T : TB} {p p2 t : Int} (hw : tWF T) (hc : CT M t T) (hS : SR M p2 T) (hap : p + 14 < p2 ∨ p2 + 7 < p) (hat : p + 14 < t ∨ t + 6 < p) (e12 : M (p + 12) 0 = 0) (e13 : M (p + 13) 0 = 0)
    (h : ∀ N : xM, NT N p T → (∀ b j : Int, ¬ (p ≤ b ∧ b ≤ p + 14) → N b j = M b j) → Q xU N) : Ru (d + 3) kNodes_build 0 [xO 3 p, xO 6 t, xO 5 p2, xU, xU, xU, xU] [] M Q := by
  have hZ := hw.2.2.2.2.2.1
  have hZ6 := tWF_Z hw
  have m121 := hS.2.1
  have hm1 := hS.1.1
  have em : mn (M t 6) 16 = tZ T := by
    rw [hc.2.2.2.1]
    unfold mn
    rw [if_neg (by omega)]
  refine vNodes_build_0 ?_
  rw [em]
  -- strides
  refine loop_up (tZ T) (P := fun i => ∀ N : xM, 0 ≤ i → N p 15 = tZ T → (∀ j : Int, 0 ≤ j → j < i → N (p + 14) j = tS T j) → (∀ j : Int, 0 ≤ j → j ≤ i → N (p + 13) j = tB (tS T) j.toNat) → N (p + 12) 0 = 0 → (∀ b j : Int, ¬ (p ≤ b ∧ b ≤ p + 14) → N b j = M b j) → Ru (d + 3) kNodes_build 15 [xO 3 p, xO 6 t, xO 5 p2, xI i, xU, xU, xU] [] N Q) (fun i hi ih N i0 n15 n14 n13 n12 hf => ?_) 0 (by omega) _ (Int.le_refl _) up_same (fun j j0 j1 => by omega) (fun j j0 j1 => by rw [show j = 0 by omega, up_ne (by omega)]; exact e13) (by rw [up_ne (by omega)]; exact e12) (fun b j hb => up_ne (by omega))
  refine vNodes_build_15 ?_
  rw [n15]
  refine ⟨fun q => ?_, fun q => ?_⟩
  · have ei : i = tZ T := by omega
    subst ei
    refine qNodes_append (c := 0) (by rw [up_un (by omega), up_same]) (Int.le_refl _) (by decide) (fun N1 k1 k2 k3 k4 k5 k6 k7 hf1 => vNodes_build_80 ?_)
    have u : ∀ b j : Int, ¬ b = p → up (up N p 0 0) p 16 0 b j = N b j := fun b j hb => by rw [up_ne hb, up_ne hb]
    have hL0 : LI M N1 p p2 T 0 := by
      refine ⟨⟨?_, fun j j0 j1 => ?_, fun j j0 j1 => ?_⟩, ⟨?_, fun z => by omega, ?_, fun _ => k1, by omega, fun z => by omega⟩, ⟨k2, k3, k4⟩, fun j j0 j1 => by omega, fun j j0 j1 => by omega, ⟨fun z => by omega, fun j j0 j1 => ?_⟩, fun j j0 j1 => ?_, ⟨fun z => ?_, ?_, ?_⟩, fun b j hb => ?_⟩
      · rw [hf1 _ _ (by omega) (by omega), up_un (by omega), up_un (by omega)]; exact n15
      · rw [hf1 _ _ (by omega) (by omega), u _ _ (by omega)]; exact n14 j j0 j1
      · rw [hf1 _ _ (by omega) (by omega), u _ _ (by omega)]; exact n13 j j0 j1
      · rw [hf1 _ _ (by omega) (by omega), u _ _ (by omega)]; exact n12
      · rw [hf1 _ _ (by omega) (by omega), u _ _ (by omega), n12, k1]; omega
      · rw [hf1 (p + 12) 0 (by omega) (by omega), u _ _ (by omega), n12] at j0
        rw [k1] at j1
        rw [show j = 0 by omega]; exact k3
      · rw [hf1 (p + 12) 0 (by omega) (by omega), u _ _ (by omega), n12] at j0
        rw [k1] at j1
        rw [show j = 0 by omega, k6, k7, k5, k2, hS.1.2.1]
        have h9 := hS.1.2.2.1 0 (Int.le_refl _) (by omega)
        rw [hS.1.2.1] at h9
        exact ⟨rfl, rfl, ⟨Int.le_refl _, by omega⟩, Int.le_refl _, h9⟩
      · rw [hf1 (p + 12) 0 (by omega) (by omega), u _ _ (by omega), n12] at z; omega
      · rw [hf1 _ _ (by omega) (by omega), up_same]; omega
      · rw [hf1 p 16 (by omega) (by omega), up_same, hf1 (p + 12) 0 (by omega) (by omega), u _ _ (by omega), n12]; omega
      · rw [hf1 _ _ (by omega) (by omega), u _ _ (by omega)]; exact hf b j hb
    refine loop_up (tZ T) (P := fun l => ∀ (N2 : xM) (w4 w5 w6 : xV), 0 ≤ l → LI M N2 p p2 T l → Ru (d + 3) kNodes_build 82 [xO 3 p, xO 6 t, xO 5 p2, xI l, w4, w5, w6] [] N2 Q) (fun l hl ihl N2 w4 w5 w6 l0 hL => ?_) 0 (by omega) N1 xU xU xU (Int.le_refl _) hL0
    have hL15 := hL.1.1
    refine vNodes_build_82 ?_
    rw [hL15]
    refine ⟨fun q2 => ?_, fun q2 => ?_⟩
    · have el : l = tZ T := by omega
      subst el
      have hst := hL.2.2.2.2.2.2.2.1.2.2
      have h901 := hL.2.1.2.2.2.2.2 (by omega)
      have hNT := LI_NT hw hL (by omega)
      exact h N2 hNT.1 hNT.2
    · rw [z32_id (by omega) (by omega)]
      refine ⟨by omega, by omega, ?_⟩
      have hB := LI_BI hS hL l0
      have hbits := tB_hi hw (l := l + 1) (by omega) (by omega)
      -- nodes of the level
      refine loop_up (N2 p 0) (P := fun n => ∀ N3 : xM, BI M N3 p p2 T l n (N2 p 0) → Ru (d + 3) kNodes_build 118 [xO 3 p, xO 6 t, xO 5 p2, xI l, xI (N2 (p + 12) l), xI (N2 p 0), xI n] [] N3 Q) (fun n hn ihn N3 hI => ?_) (N2 (p + 12) l) hL.2.1.2.2.1.2 _ hB
      have hbh := hI.2.1.2.2.2.2
      refine vNodes_build_118 ⟨fun q3 => ?_, fun q3 => ?_⟩
      · rw [z32_id (by omega) (by omega)]
        have en : n = N2 p 0 := by omega
        rw [en] at hI
        exact ihl (l + 1) (by omega) (by omega) N3 _ _ _ (by omega) (BI_LI hw m121 hI l0 (by omega))
      · have hin := hI.2.1.2.2.2.1
        obtain ⟨hnd, hal⟩ := BI_nd hw hI l0 (by omega) hin.1 (by omega)
        have hun := hI.2.2.2.2.2.2.1 n (Int.le_refl _) (by omega)
        have hn0 := (hI.2.2.2.2.1 l l0 (Int.le_refl _)).1
        obtain ⟨f1, f2, e9, e90, e91, e92, e93⟩ := hI.2.2.2.2.2.2.2.1
        have hmono : e9 ≤ N3 (p + 11) n := rows_mono hS.1 e90 e91 hun.2.2.1.1 (e93 (by omega)) hun.2.2.2.2
        have hcnt := hI.2.2.2.2.2.2.2.2.1.2 (by omega)
        have hf3 := hI.2.2.2.2.2.2.2.2.2
        have hwz := (nd_sl hw hnd).1
        have eW : ((2 ^ (tS T l).toNat : Nat) : Int) * wd (tB (tS T) (l + 1).toNat) = wd (tB (tS T) l.toNat) := by rw [hwz, p2i]
        have hcr := nK_cr hw (v := N3 (p + 1) n) (b := tB (tS T) (l + 1).toNat) (by omega) hnd.2.1 (mod_dvd hal (by rw [hwz]; exact ⟨_, Int.mul_comm _ _⟩)) (2 ^ (tS T l).toNat) (by rw [eW]; exact hnd.2.2)
        have hcb := cr_b hw (N3 (p + 1) n + ((2 ^ (tS T l).toNat : Nat) : Int) * wd (tB (tS T) (l + 1).toNat))
        have h901 : N3 p 0 + nK T (N3 (p + 1) n) (wd (tB (tS T) (l + 1).toNat)) (2 ^ (tS T l).toNat) ≤ 901 := by
          by_cases e15 : l ≤ 14
          · omega
          · have el : l + 1 = tZ T := by omega
            have e32 : tB (tS T) (l + 1).toNat = 32 := by rw [el]; exact hw.2.2.2.2.2.2.2
            have hk := hI.2.2.2.2.2.1.1
            rw [e32, wd_32] at hk ⊢
            rw [nK_1]
            have : N3 p 0 = N2 p 0 := by
              refine Classical.byContradiction fun hc9 => ?_
              have h9 := hk.2.2.1 (N2 p 0) (Int.le_refl _) (by have := hk.1; omega)
              exact h9.2.1 (fun a a0 a1 => by rw [show a = N3 (p + 1) (N2 p 0) by omega])
            omega
        have hS3 : SR N3 p2 T := SR_fr hS (fun b j b0 b1 => hf3 b j (by omega))
        have eF : N3 (p2 + 1) = M (p2 + 1) := funext fun j => hf3 _ _ (by omega)
        have eM : N3 p2 0 = M p2 0 := hf3 _ _ (by omega)
        refine qNodes_fill (e0 := N3 (p + 11) n) hw hS3 hap hnd (by omega) (by omega) rfl rfl f2 rfl hun.1 hun.2.1 (hI.1.2.1 l l0 (by omega)) (hI.1.2.2 (l + 1) (by omega) (by omega)) rfl hun.2.2.1.1 (by rw [eM]; exact hun.2.2.1.2) (by rw [eF]; exact hun.2.2.2.1) h901 (by omega) (fun N4 e g1 g2 g3 g4 g5 g6 hf4 => vNodes_build_133 ?_)
        rw [z32_id (by omega) (by omega)]
        rw [eM, eF] at g4 g6
        exact ihn (n + 1) (by omega) (by omega) N4 (BI_fill hw hS hI l0 (by omega) (by omega) rfl rfl rfl g1 g2 g3 g4 g5 g6 hf4)
  · have hs := hw.2.2.2.2.2.2.1 i i0 (by omega)
    have hb := tB_hi hw (l := i) i0 (by omega)
    have hb2 := tB_hi hw (l := i + 1) (by omega) (by omega)
    rw [tB_s _ i0] at hb2
    rw [z32_id (x := i + 1) (by omega) (by omega), hf (t + 6) i (by omega), hc.2.2.2.2 i i0 (by omega), up_ne (by omega), up_same, n13 i i0 (Int.le_refl _), z32_id (by omega) (by omega)]
    refine ⟨by omega, by omega, by omega, by omega, by omega, ih (i + 1) (by omega) (by omega) _ (by omega) ?_ (fun j j0 j1 => ?_) (fun j j0 j1 => ?_) ?_ (fun b j hb => ?_)⟩
    · simp (disch := omega) only [up_un]; exact n15
    · rw [up_ne (by omega)]
      by_cases e : j = i
      · rw [e, up_same]
      · rw [up_off e]; exact n14 j j0 (by omega)
    · by_cases e : j = i + 1
      · rw [e, up_same, tB_s _ i0]
      · rw [up_off e, up_ne (by omega)]; exact n13 j j0 (by omega)
    · simp (disch := omega) only [up_un]; exact n12
    · simp (disch := omega) only [up_un]; exact hf b j hb

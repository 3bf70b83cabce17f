/-! WHAT AN EDIT TOUCHES: the reference. -/
section RefOthers
variable {d : Nat} {M : xM} {Q : xQ} {T : TB} {r t : Int}
theorem qMo_hasNode {l v : Int} (hw : tWF T) (hR : RW M r t T) (ht : t = 0 ∨ t = 1) (l0 : 0 ≤ l) (l1 : l < 17) (v0 : 0 ≤ v) (v1 : v < 4294967296) (h1 : inN T l v → Q (xI 1) M) (h0 : ¬ inN T l v → Q (xI 0) M) : Ru (d + 2) kMo_hasNode 0 [xO 9 r, xI t, xI l, xL v, xU, xU, xU] [] M Q := by
  have hz := hw.2.2.2.2.2.1
  refine vMo_hasNode_0 ⟨fun q => ⟨by omega, fun q2 => ?_, fun q2 => h0 (fun z => ?_)⟩, fun q => h1 (Or.inl (Classical.not_not.mp q))⟩
  · rw [hR.2.2.1] at q2
    have hb := tB_hi hw (l := l) l0 (by omega)
    have hp := wd_pos (tB (tS T) l.toNat)
    refine qMo_lengthAt hw hR ht l0 (by omega) (vMo_hasNode_24 (qMo_sizeOf (by omega) (by omega) (vMo_hasNode_27 ⟨Int.ne_of_gt hp, ?_⟩)))
    rw [wd_lrem v0 (by omega) (by omega)]
    refine ⟨fun q3 => h0 (fun z => ?_), fun q3 => ?_⟩
    · rcases z with z | z
      · exact q z
      · exact q3 z.2.2.2.1
    · have q3 := Classical.not_not.mp q3
      refine qMo_isOne hR ht v0 hp (wd_4g (by omega) v1 q3) (fun z => vMo_hasNode_46 ⟨fun _ => h0 (fun y => ?_), fun z2 => absurd (by decide) z2⟩) (fun z => vMo_hasNode_46 ⟨fun z2 => absurd rfl z2, fun _ => h1 (Or.inr ⟨by omega, q2, ⟨v0, v1⟩, q3, z⟩)⟩)
      rcases y with y | y
      · exact q y
      · exact y.2.2.2.2 z
  · rw [hR.2.2.1] at q2
    rcases z with z | z
    · exact q z
    · exact q2 z.2.1
end RefOthers
section RefOthers2
variable {d : Nat} {M : xM} {Q : xQ} {T1 T2 : TB} {r : Int}
theorem qMo_isUnlike {l v : Int} (hw1 : tWF T1) (hw2 : tWF T2) (hR1 : RW M r 0 T1) (hR2 : RW M r 1 T2) (hv1 : ndOk T1 l v) (hv2 : ndOk T2 l v) (h1 : ∀ N : xM, ¬ sameN T1 T2 l v v → (∀ b j : Int, ¬ (b = r ∧ 20 ≤ j ∧ j ≤ 26) → ¬ b = r + 16 → ¬ b = r + 17 → N b j = M b j) → Q (xI 1) N) (h0 : ∀ N : xM, sameN T1 T2 l v v → (∀ b j : Int, ¬ (b = r ∧ 20 ≤ j ∧ j ≤ 26) → ¬ b = r + 16 → ¬ b = r + 17 → N b j = M b j) → Q (xI 0) N) : Ru (d + 4) kMo_isUnlike 0 [xO 9 r, xI l, xL v, xU, xU] [] M Q := by
  have s1 := hw1.2.2.2.2.2.2.1 l hv1.1.1 hv1.1.2
  have s2 := hw2.2.2.2.2.2.2.1 l hv2.1.1 hv2.1.2
  have p1 := p26 s1.1 s1.2
  have p2 := p26 s2.1 s2.2
  have h64a : (2 : Nat) ^ (tS T1 l).toNat ≤ 64 := by rw [p2i] at p1; omega
  have h64b : (2 : Nat) ^ (tS T2 l).toNat ≤ 64 := by rw [p2i] at p2; omega
  refine vMo_isUnlike_0 (qMo_reads hw2 hR2 (Or.inr rfl) hv2 (fun N a20 a21 a22 a16 af => vMo_isUnlike_7 ?_))
  unfold sameN sameV at h1 h0
  have nb := nN_b T2 v (wd (tB (tS T2) (l + 1).toNat)) (2 ^ (tS T2 l).toNat)
  have nb1 := nN_b T1 v (wd (tB (tS T1) (l + 1).toNat)) (2 ^ (tS T1 l).toNat)
  simp (disch := omega) only [up_un]
  refine loop_up (N r 22) (P := fun i => ∀ N2 : xM, 0 ≤ i → N2 r 22 = N r 22 → N2 r 24 = N r 20 → N2 r 25 = N r 21 → N2 r 26 = N r 22 → (∀ j : Int, N2 (r + 16) j = N (r + 16) j) → (∀ j : Int, 0 ≤ j → j < i → N2 (r + 17) j = N (r + 16) j) → (∀ b j : Int, ¬ (b = r ∧ 20 ≤ j ∧ j ≤ 26) → ¬ b = r + 16 → ¬ b = r + 17 → N2 b j = M b j) → Ru (d + 4) kMo_isUnlike 34 [xO 9 r, xI l, xL v, xU, xI i] [] N2 Q) (fun i hi ih N2 i0 e22 e24 e25 e26 e16 e17 ef => ?_) 0 (by omega) _ (by decide) (by simp (disch := omega) only [up_un]) (by simp (disch := omega) only [up_un, up_at]) (by simp (disch := omega) only [up_un, up_at]) (by simp (disch := omega) only [up_un, up_at]) (fun j => by simp (disch := omega) only [up_un]) (fun j j0 j1 => by omega) (fun b j hb1 hb2 hb3 => by rw [up_un (by omega), up_un (by omega), up_un (by omega)]; exact af b j (by omega) (by omega))
  refine vMo_isUnlike_34 ?_
  rw [e22]
  refine ⟨fun y => ?_, fun y => ⟨by omega, by omega, ?_⟩⟩
  · have hR1' : RW N2 r 0 T1 := RW_fr hR1 (fun b j b0 b1 => ef b j (by omega) (by omega) (by omega))
    refine qMo_reads hw1 hR1' (Or.inl rfl) hv1 (fun N3 c20 c21 c22 c16 cf => vMo_isUnlike_70 ?_)
    have cf3 : ∀ b j : Int, ¬ (b = r ∧ 20 ≤ j ∧ j ≤ 26) → ¬ b = r + 16 → ¬ b = r + 17 → N3 b j = M b j := fun b j hb1 hb2 hb3 => by
      rw [cf b j (by omega) (by omega)]; exact ef b j hb1 hb2 hb3
    rw [cf r 24 (by omega) (by omega), cf r 25 (by omega) (by omega), cf r 26 (by omega) (by omega), e24, e25, e26, c20, c21, c22, a20, a21, a22]
    refine ⟨fun y1 => h1 N3 (fun z => y1 z.1) cf3, fun y1 => ⟨fun y2 => h1 N3 (fun z => y2 z.2.1) cf3, fun y2 => ⟨fun y3 => ?_, fun y3 => h1 N3 (fun z => y3 z.2.2.1) cf3⟩⟩⟩
    have y1 := Classical.not_not.mp y1
    have y2 := Classical.not_not.mp y2
    refine loop_up (nN T1 v (wd (tB (tS T1) (l + 1).toNat)) (2 ^ (tS T1 l).toNat)) (P := fun i => 0 ≤ i → (∀ j k : Nat, j < 2 ^ (tS T1 l).toNat → k < 2 ^ (tS T2 l).toNat → nS T1 v (wd (tB (tS T1) (l + 1).toNat)) j = true → nS T2 v (wd (tB (tS T2) (l + 1).toNat)) k = true → nN T1 v (wd (tB (tS T1) (l + 1).toNat)) j = nN T2 v (wd (tB (tS T2) (l + 1).toNat)) k → nN T1 v (wd (tB (tS T1) (l + 1).toNat)) j < i → cod T1 (v + j * wd (tB (tS T1) (l + 1).toNat)) = cod T2 (v + k * wd (tB (tS T2) (l + 1).toNat))) → Ru (d + 4) kMo_isUnlike 110 [xO 9 r, xI l, xL v, xU, xI i] [] N3 Q) (fun i2 hi2 ih2 i20 hok => ?_) 0 nb1.1 (by decide) (fun j k _ _ _ _ _ h9 => by have := (nN_b T1 v (wd (tB (tS T1) (l + 1).toNat)) j).1; omega)
    refine vMo_isUnlike_110 ?_
    rw [c22]
    refine ⟨fun y5 => h0 N3 ⟨y1, y2, y3, fun j k hj hk sj sk e => hok j k hj hk sj sk e ?_⟩ cf3, fun y5 => ⟨by omega, by omega, ?_⟩⟩
    · have h9 := nN_mono (T := T1) (v := v) (z := wd (tB (tS T1) (l + 1).toNat)) (show j + 1 ≤ 2 ^ (tS T1 l).toNat by omega)
      rw [nN_y sj] at h9
      omega
    · obtain ⟨j, j0, j1, j2⟩ := nN_surj (T := T1) (v := v) (z := wd (tB (tS T1) (l + 1).toNat)) (2 ^ (tS T1 l).toNat) i2 i20 (by omega)
      obtain ⟨k, k0, k1, k2⟩ := nN_surj (T := T2) (v := v) (z := wd (tB (tS T2) (l + 1).toNat)) (2 ^ (tS T2 l).toNat) i2 i20 (by omega)
      have ej := c16 j j0 j1
      have ek := a16 k k0 k1
      rw [j2] at ej
      rw [k2] at ek
      rw [cf (r + 17) i2 (by omega) (by omega), e17 i2 i20 (by omega), ej, ek, z32_id (by omega) (by omega)]
      refine ⟨fun y6 => ih2 (i2 + 1) (by omega) (by omega) (by omega) (fun a b ha' hb' sa sb e he => ?_), fun y6 => h1 N3 (fun z => y6 (z.2.2.2 j k j0 k0 j1 k1 (by omega))) cf3⟩
      by_cases ei : nN T1 v (wd (tB (tS T1) (l + 1).toNat)) a = i2
      · have ea := nS_u (T := T1) sa j1 (by omega)
        have eb := nS_u (T := T2) sb k1 (by omega)
        rw [ea, eb]; exact y6
      · exact hok a b ha' hb' sa sb e (by omega)
  · rw [z32_id (by omega) (by omega)]
    refine ih (i + 1) (by omega) (by omega) _ (by omega) (by rw [up_un (by omega)]; exact e22) (by rw [up_un (by omega)]; exact e24) (by rw [up_un (by omega)]; exact e25) (by rw [up_un (by omega)]; exact e26) (fun j => by rw [up_un (by omega)]; exact e16 j) (fun j j0 j1 => ?_) (fun b j hb1 hb2 hb3 => by rw [up_un (by omega)]; exact ef b j hb1 hb2 hb3)
    by_cases e : j = i
    · rw [e, up_same]; exact e16 i
    · rw [up_off e]; exact e17 j j0 (by omega)
theorem RL_fr {M N : xM} {T : TB} (h : RL M r T) (e : ∀ b j : Int, r + 5 ≤ b → b ≤ r + 15 → N b j = M b j) (e15 : N r 15 = M r 15) : RL N r T := by
  refine ⟨RW_fr h.1 (fun b j b0 b1 => e b j b0 (by omega)), ?_⟩
  have f5 : N (r + 5) = M (r + 5) := funext fun j => e _ _ (by omega) (by omega)
  have f6 : N (r + 6) = M (r + 6) := funext fun j => e _ _ (by omega) (by omega)
  have f13 : N (r + 13) = M (r + 13) := funext fun j => e _ _ (by omega) (by omega)
  have f14 : N (r + 14) = M (r + 14) := funext fun j => e _ _ (by omega) (by omega)
  have f15 : N (r + 15) = M (r + 15) := funext fun j => e _ _ (by omega) (by omega)
  have h2 := h.2
  unfold NS at h2 ⊢
  rw [f5, f6, f13, f14, f15, e15]
  exact h2
theorem qMo_othersNow (hw1 : tWF T1) (hw2 : tWF T2) (hR1 : RL M r T1) (hR2 : RW M r 1 T2) (h : ∀ N : xM, (∀ b j : Int, ¬ (b = r ∧ 20 ≤ j ∧ j ≤ 26) → ¬ b = r + 16 → ¬ b = r + 17 → N b j = M b j) → Q (xI (cq (badN T1 T2 (M (r + 14)) (M (r + 13))) (M r 15).toNat)) N) : Ru (d + 5) kMo_othersNow 0 [xO 9 r, xU, xU] [] M Q := by
  have n1 := RL_num hw1 hR1
  have hb := RL_b hw1 hR1
  have z1 := hw1.2.2.2.2.2.1
  have z2 := hw2.2.2.2.2.2.1
  refine vMo_othersNow_0 (loop_up (M r 15) (P := fun k => ∀ N : xM, 0 ≤ k → (∀ b j : Int, ¬ (b = r ∧ 20 ≤ j ∧ j ≤ 26) → ¬ b = r + 16 → ¬ b = r + 17 → N b j = M b j) → Ru (d + 5) kMo_othersNow 4 [xO 9 r, xI (cq (badN T1 T2 (M (r + 14)) (M (r + 13))) k.toNat), xI k] [] N Q) (fun k hk ih N k0 hf => ?_) 0 (by omega) M (by decide) (fun _ _ _ _ _ => rfl))
  have cb := cq_b (badN T1 T2 (M (r + 14)) (M (r + 13))) k.toNat
  refine vMo_othersNow_4 ?_
  rw [hf r 15 (by omega) (by omega) (by omega), hf (r + 13) k (by omega) (by omega) (by omega), hf (r + 14) k (by omega) (by omega) (by omega)]
  refine ⟨fun y => ?_, fun y => ⟨by omega, by omega, ?_⟩⟩
  · rw [show k = M r 15 by omega]
    exact h N hf
  · obtain ⟨l, hl⟩ := num_at hw1 n1 k0 (by omega)
    have el := hl.2.2.1
    have hl0 := hl.1
    have hv := hl.2.2.2.1
    have wp := wd_pos (tB (tS T1) l.toNat)
    have hR2' : RW N r 1 T2 := RW_fr hR2 (fun b j b0 b1 => hf b j (by omega) (by omega) (by omega))
    have hR1' : RL N r T1 := RL_fr hR1 (fun b j b0 b1 => hf b j (by omega) (by omega) (by omega)) (hf _ _ (by omega) (by omega) (by omega))
    rw [el]
    refine qMo_hasNode hw2 hR2' (Or.inr rfl) hl0.1 (by omega) hv.2.1 (by have := hv.2.2; omega) (fun z => vMo_othersNow_30 ⟨fun z2 => absurd z2 (by decide), fun _ => ⟨by omega, by omega, ?_⟩⟩) (fun z => vMo_othersNow_30 ⟨fun _ => ?_, fun z2 => absurd rfl z2⟩)
    · rw [hf (r + 13) k (by omega) (by omega) (by omega), hf (r + 14) k (by omega) (by omega) (by omega), el]
      have hv2 : ndOk T2 l (M (r + 14) k) := by
        rcases z with z | z
        · have e0 := (num_in hw1 n1 k0 (by omega)).2 (by rw [el]; exact z)
          rw [e0, z]
          exact ⟨⟨by decide, by omega⟩, by decide, by show 0 + wd 0 ≤ _; rw [wd_0]; decide⟩
        · have hb2 := tB_hi hw2 (l := l) hl0.1 (by omega)
          exact ⟨⟨hl0.1, z.2.1⟩, z.2.2.1.1, wd_4g (by omega) z.2.2.1.2 z.2.2.2.1⟩
      refine qMo_isUnlike hw1 hw2 hR1'.1 hR2' hv hv2 (fun N2 hs hf2 => vMo_othersNow_49 ⟨fun z2 => absurd z2 (by decide), fun _ => ?_⟩) (fun N2 hs hf2 => vMo_othersNow_49 ⟨fun _ => ?_, fun z2 => absurd rfl z2⟩)
      · have ih' := ih (k + 1) (by omega) (by omega) N2 (by omega) (fun b j h9 h8 h7 => by rw [hf2 b j h9 h8 h7]; exact hf b j h9 h8 h7)
        rw [cq_y k0 (fun z3 => hs (by have := z3.2; rw [el] at this; exact this))] at ih'
        rw [z32_id (x := k + 1) (by omega) (by omega), z32_id (by omega) (by omega)]
        exact ih'
      · have ih' := ih (k + 1) (by omega) (by omega) N2 (by omega) (fun b j h9 h8 h7 => by rw [hf2 b j h9 h8 h7]; exact hf b j h9 h8 h7)
        rw [cq_n k0 (fun z3 => z3 (by rw [el]; exact ⟨z, hs⟩))] at ih'
        rw [z32_id (x := k + 1) (by omega) (by omega), z32_id (by omega) (by omega), Int.add_zero]
        exact ih'
    · have ih' := ih (k + 1) (by omega) (by omega) N (by omega) hf
      rw [cq_y k0 (fun z3 => z (by have := z3.1; rw [el] at this; exact this))] at ih'
      rw [z32_id (x := k + 1) (by omega) (by omega), z32_id (by omega) (by omega)]
      exact ih'
theorem qMo_goneNow {sB : Int} {lf vl lv : Int → Int} (hw1 : tWF T1) (hw2 : tWF T2) (hR1 : RW M r 0 T1) (hR2 : RW M r 1 T2) (hB : isNum T2 sB lf vl lv) (hs : sB ≤ 3000) (h : Q (xI (cq (goneN T1 vl lv) sB.toNat)) M) : Ru (d + 3) kMo_goneNow 0 [xO 9 r, xU, xU, xU, xU, xU, xU, xU, xU, xU, xU, xU] [] M Q := by
  have z1 := hw1.2.2.2.2.2.1
  have z2 := hw2.2.2.2.2.2.1
  have s0 := num_0 hw2 hB
  have hr := hR2.1
  have m1 := hr.1
  have m2 := hR2.2.1
  have e1 : cq (goneN T1 vl lv) (lf 1).toNat = 0 := by
    rw [hB.1.2.1]
    have := cq_n (P := goneN T1 vl lv) (n := 0) (by decide) (fun z => z (Or.inl hB.2.1.2))
    exact this
  refine vMo_goneNow_0 ?_
  rw [← e1]
  refine loop_up (tZ T2) (P := fun l => ∀ w3 w5 w7 w8 w10 : xV, 1 ≤ l → Ru (d + 3) kMo_goneNow 4 [xO 9 r, xI (cq (goneN T1 vl lv) (lf l).toNat), xI l, w3, xU, w5, xU, w7, w8, xU, w10, xU] [] M Q) (fun l hl ih w3 w5 w7 w8 w10 l0 => ?_) 1 (by omega) _ _ _ _ _ (by decide)
  refine vMo_goneNow_4 ⟨by decide, ?_⟩
  rw [hR2.2.2.1]
  refine ⟨fun y => ?_, fun y => ?_⟩
  · rw [show l = tZ T2 by omega, hB.1.2.2]
    exact h
  · have hb := tB_hi hw2 (l := l) (by omega) (by omega)
    have wp := wd_pos (tB (tS T2) l.toNat)
    obtain ⟨hsq, hlv⟩ := hB.2.2 l l0 (by omega)
    have mo1 := num_mono hB (i := 1) (j := l) (by decide) l0 (by omega)
    have mo2 := num_mono hB (i := l + 1) (j := tZ T2) (by omega) (by omega) (Int.le_refl _)
    rw [hB.1.2.1] at mo1
    rw [hB.1.2.2] at mo2
    refine qMo_lengthAt hw2 hR2 (Or.inr rfl) (by omega) (by omega) (vMo_goneNow_20 (qMo_sizeOf (by omega) (by omega) (vMo_goneNow_23 ?_)))
    have ndt : ∀ x : Int, NDT T2 (tB (tS T2) l.toNat) x ↔ ND (fun i => M (r + 6) (124 * 1 + i)) (M (r + 5) 1) (tB (tS T2) l.toNat) x := fun x => (ND_T hr (by omega) (by omega)).symm
    have eF : ∀ i : Int, M (r + 6) (124 + i) = (fun i => M (r + 6) (124 * 1 + i)) i := fun i => by show _ = M (r + 6) (124 * 1 + i); rw [show (124 : Int) * 1 + i = 124 + i by omega]
    generalize hF : (fun i => M (r + 6) (124 * 1 + i)) = F at *
    generalize hW : wd (tB (tS T2) l.toNat) = w at *
    refine loop_up (M (r + 5) 1) (P := fun k => ∀ (n last : Int) (w8 w10 : xV), 1 ≤ k → lf l ≤ n → n ≤ lf (l + 1) → (∀ j : Int, 1 ≤ j → j < k → ¬ F j % w = 0 → ∃ n' : Int, lf l ≤ n' ∧ n' < n ∧ vl n' = F j - F j % w) → ((n = lf l ∧ last = -1) ∨ (lf l < n ∧ last = vl (n - 1) ∧ ∃ j : Int, 1 ≤ j ∧ j < k ∧ vl (n - 1) = F j - F j % w)) → Ru (d + 3) kMo_goneNow 32 [xO 9 r, xI (cq (goneN T1 vl lv) n.toNat), xI l, xL w, xU, xL last, xU, xI k, w8, xU, w10, xU] [] M Q) (fun k hk ihk n last w8 w10 k0 n0 n1 hin hlast => ?_) 1 m1 (lf l) (-1) _ _ (by decide) (Int.le_refl _) hsq.1 (fun j j0 j1 => by omega) (Or.inl ⟨rfl, rfl⟩)
    have cb := cq_b (goneN T1 vl lv) n.toNat
    refine vMo_goneNow_32 ⟨by decide, fun y2 => ?_, fun y2 => ?_⟩
    · have en : n = lf (l + 1) := by
        refine Classical.byContradiction fun z => ?_
        have hx := hsq.2.2.1 n n0 (by omega)
        obtain ⟨a1, j, a2, a3, a4, a5⟩ := (ndt _).mp hx
        rw [hW] at a1 a5
        have hbk := blk a1 (a := F j) (by omega) a5
        obtain ⟨n', b1, b2, b3⟩ := hin j a2 (by omega) (by omega)
        have := hsq.2.1 n' n b1 b2 (by omega)
        omega
      rw [en, z32_id (by omega) (by omega)]
      exact ih (l + 1) (by omega) (by omega) _ _ _ _ _ (by omega)
    · have hFk := rows_in hr (i := k) (by omega) (by omega)
      have hm1 := Int.emod_nonneg (F k) (Int.ne_of_gt wp)
      have hm2 := Int.emod_lt_of_pos (F k) wp
      have hbl : 0 ≤ F k - F k % w ∧ F k - F k % w ≤ F k := by
        have h9 := blk_in (a := F k) (b := tB (tS T2) l.toNat) hFk.1 hFk.2 (by omega)
        rw [hW] at h9
        exact ⟨h9.1, h9.2.1⟩
      rw [z32_id (x := 124 + k) (by omega) (by omega), eF k, lrem_eq hFk.1 (by omega) wp (by have := wd_le (n := tB (tS T2) l.toNat) (by omega); rw [hW] at this; omega), z64_id (x := F k - F k % w) (by omega) (by omega), z32_id (x := k + 1) (by omega) (by omega)]
      refine ⟨by omega, Int.ne_of_gt wp, by omega, fun y3 => ?_, fun y3 => ?_⟩
      · refine ihk (k + 1) (by omega) (by omega) n last _ _ (by omega) n0 n1 (fun j j0 j1 hj => ?_) ?_
        · by_cases e : j = k
          · rw [e] at hj; exact absurd y3 hj
          · exact hin j j0 (by omega) hj
        · rcases hlast with e | ⟨e1, e2, j, j0, j1, j2⟩
          · exact Or.inl e
          · exact Or.inr ⟨e1, e2, j, j0, by omega, j2⟩
      · -- the node that has this row's beginning
        have hnd : NDT T2 (tB (tS T2) l.toNat) (F k - F k % w) := (ndt _).mpr ⟨by rw [hW]; exact mod_sub, k, k0, by omega, by omega, by rw [hW]; omega⟩
        obtain ⟨n', b1, b2, b3⟩ := hsq.2.2.2 _ hnd
        -- beginnings rise
        have rise : ∀ j : Int, 1 ≤ j → j < k → F j - F j % w ≤ F k - F k % w := fun j j0 j1 => by
          have h8 := rows_lt hr (i := j) (j := k) (by omega) j1 (by omega)
          have h7 := rows_in hr (i := j) (by omega) (by omega)
          refine mul_le wp mod_sub ?_
          have := Int.emod_nonneg (F j) (Int.ne_of_gt wp)
          omega
        refine ⟨fun y4 => ?_, fun y4 => ?_⟩
        · have en : n' = n := by
            rcases (show n' = n ∨ n' < n ∨ n < n' by omega) with e | e | e
            · exact e
            · rcases hlast with ⟨e1, -⟩ | ⟨e1, e2, j, j0, j1, j2⟩
              · omega
              · have h9 := rise j j0 j1
                by_cases e3 : n' = n - 1
                · rw [e3] at b3; omega
                · have := hsq.2.1 n' (n - 1) b1 (by omega) (by omega)
                  omega
            · have hx := hsq.2.2.1 n n0 (by omega)
              obtain ⟨a1, j, a2, a3, a4, a5⟩ := (ndt _).mp hx
              rw [hW] at a1 a5
              have hbk := blk a1 (a := F j) (by omega) a5
              have hvl := hsq.2.1 n n' n0 e b2
              have hjk : j < k := by
                refine Classical.byContradiction fun z => ?_
                have hFj : F k ≤ F j := by
                  by_cases ejk : k = j
                  · rw [ejk]; exact Int.le_refl _
                  · exact Int.le_of_lt (rows_lt hr (i := k) (j := j) (by omega) (by omega) a3)
                have := mul_le wp (mod_sub (a := F k)) (show F k - F k % w ≤ F j by omega)
                omega
              obtain ⟨n2, c1, c2, c3⟩ := hin j a2 hjk (by omega)
              have := hsq.2.1 n2 n c1 c2 (by omega)
              omega
          subst en
          have ewv := hlv n' b1 b2
          have hnext : ∀ x : Int, cq (goneN T1 vl lv) (n' + 1).toNat = x → Ru (d + 3) kMo_goneNow 32 [xO 9 r, xI x, xI l, xL w, xU, xL (F k - F k % w), xU, xI (k + 1), xL (F k % w), xU, xL (F k - F k % w), xU] [] M Q := fun x hx => by
            rw [← hx]
            refine ihk (k + 1) (by omega) (by omega) (n' + 1) (F k - F k % w) _ _ (by omega) (by omega) (by omega) (fun j j0 j1 hj => ?_) (Or.inr ⟨by omega, by rw [show n' + 1 - 1 = n' by omega, b3], k, k0, by omega, by rw [show n' + 1 - 1 = n' by omega, b3]⟩)
            by_cases e : j = k
            · exact ⟨n', b1, by omega, by rw [e]; exact b3⟩
            · obtain ⟨n2, c1, c2, c3⟩ := hin j j0 (by omega) hj
              exact ⟨n2, c1, by omega, c3⟩
          refine qMo_hasNode hw1 hR1 (Or.inl rfl) (by omega) (by omega) hbl.1 (by omega) (fun z => vMo_goneNow_103 ⟨fun z2 => absurd z2 (by decide), fun _ => ?_⟩) (fun z => vMo_goneNow_103 ⟨fun _ => ?_, fun z2 => absurd rfl z2⟩)
          · rw [z32_id (x := k + 1) (by omega) (by omega), z32_id (by omega) (by omega), Int.add_zero]
            exact hnext _ (cq_n (by omega) (fun z3 => z3 (by rw [ewv, b3]; exact z)))
          · rw [z32_id (x := k + 1) (by omega) (by omega), z32_id (by omega) (by omega)]
            exact hnext _ (cq_y (by omega) (fun z3 => z (by rw [ewv, b3] at z3; exact z3)))
        · have y4 := Classical.not_not.mp y4
          refine ihk (k + 1) (by omega) (by omega) n last _ _ (by omega) n0 n1 (fun j j0 j1 hj => ?_) ?_
          · by_cases e : j = k
            · rcases hlast with ⟨e1, e2⟩ | ⟨e1, e2, -⟩
              · omega
              · exact ⟨n - 1, by omega, by omega, by rw [e]; omega⟩
            · exact hin j j0 (by omega) hj
          · rcases hlast with e | ⟨e1, e2, j, j0, j1, j2⟩
            · exact Or.inl e
            · exact Or.inr ⟨e1, e2, j, j0, by omega, j2⟩
end RefOthers2

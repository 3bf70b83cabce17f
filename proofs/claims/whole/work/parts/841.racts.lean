/-! ACTS IN THE REFERENCE. -/
section RActs
variable {d : Nat} {M : xM} {Q : xQ} {s r : Int} {T T2 : TB} {a : Int} {P : Int → TB} {kp : Int} {S : Int → TB} {tt : Int} {g : Int → Int} {z : Int}
theorem RT_cp {M N : xM} {c o c2 o2 : Int} (hw : tWF T) (h : RT M c o T) (e : ∀ j : Int, 0 ≤ j → j < 259 → N c2 (o2 + j) = M c (o + j)) : RT N c2 o2 T := by
  have hn := hw.1
  have hZ := hw.2.2.2.2.2.1
  obtain ⟨h1, h2, h3, h4, h5⟩ := h
  refine ⟨?_, ?_, fun k k0 k1 => ⟨?_, ?_, ?_⟩, fun k k0 k1 => ?_, fun l l0 l1 => ?_⟩
  · have := e 0 (by decide) (by decide); rw [Int.add_zero, Int.add_zero] at this; rw [this]; exact h1
  · rw [e 1 (by decide) (by decide)]; exact h2
  · rw [show o2 + 2 + k = o2 + (2 + k) by omega, e (2 + k) (by omega) (by omega), show o + (2 + k) = o + 2 + k by omega]; exact (h3 k k0 k1).1
  · rw [show o2 + 62 + k = o2 + (62 + k) by omega, e (62 + k) (by omega) (by omega), show o + (62 + k) = o + 62 + k by omega]; exact (h3 k k0 k1).2.1
  · rw [show o2 + 122 + k = o2 + (122 + k) by omega, e (122 + k) (by omega) (by omega), show o + (122 + k) = o + 122 + k by omega]; exact (h3 k k0 k1).2.2
  · rw [show o2 + 182 + k = o2 + (182 + k) by omega, e (182 + k) (by omega) (by omega), show o + (182 + k) = o + 182 + k by omega]; exact h4 k k0 k1
  · rw [show o2 + 243 + l = o2 + (243 + l) by omega, e (243 + l) (by omega) (by omega), show o + (243 + l) = o + 243 + l by omega]; exact h5 l l0 l1
/-- the row that is there now is copied behind the others -/
theorem qMo_keeps54 {u : Int} (u0 : 0 ≤ u) (u1 : u < 10) (e2 : M r 2 = u) (h : ∀ N : xM, N r 2 = u + 1 → (∀ j : Int, 0 ≤ j → j < 259 → N (r + 2) (259 * u + j) = M (r + 1) j) → (∀ b j : Int, ¬ (b = r + 2 ∧ 259 * u ≤ j ∧ j < 259 * u + 259) → ¬ (b = r ∧ j = 2) → N b j = M b j) → Q xU N) : Ru d kMo_keepsAct 54 [xO 9 r, xI 0] [] M Q := by
  have main : ∀ k : Int, k ≤ 259 → ∀ N : xM, 0 ≤ k → (∀ j : Int, 0 ≤ j → j < k → N (r + 2) (259 * u + j) = M (r + 1) j) → (∀ b j : Int, ¬ (b = r + 2 ∧ 259 * u ≤ j ∧ j < 259 * u + 259) → N b j = M b j) → Ru d kMo_keepsAct 54 [xO 9 r, xI k] [] N Q := by
    refine loop_up 259 (fun k hk ih N k0 h1 h2 => ?_)
    have n2 : N r 2 = u := by rw [h2 _ _ (by omega)]; exact e2
    refine vMo_keepsAct_54 ?_
    rw [n2, z32_id (x := 259 * u) (by omega) (by omega), z32_id (x := u + 1) (by omega) (by omega)]
    refine ⟨fun y => h _ (up_at rfl rfl) (fun j j0 j1 => ?_) (fun b j q1 q2 => ?_), fun y => ?_⟩
    · rw [up_un (by omega)]; exact h1 j j0 (by omega)
    · rw [up_un (by omega)]; exact h2 b j q1
    · rw [z32_id (x := 259 * u + k) (by omega) (by omega), z32_id (x := k + 1) (by omega) (by omega)]
      refine ⟨by omega, by omega, ih (k + 1) (by omega) (by omega) _ (by omega) (fun j j0 j1 => ?_) (fun b j q => ?_)⟩
      · by_cases c : j = k
        · rw [c, up_at rfl rfl]; exact h2 _ _ (by omega)
        · rw [up_un (by omega)]; exact h1 j j0 (by omega)
      · rw [up_un (by omega)]; exact h2 b j q
  exact main 0 (by decide) M (by decide) (fun j j0 j1 => by omega) (fun _ _ _ => rfl)
theorem qMo_keepsAct (hw : Wf T a P kp S) (h1 : RT M (r + 1) 0 T) (h2 : M r 2 = a) (h3 : ∀ i : Int, 0 ≤ i → i < a → RT M (r + 2) (259 * i) (P i)) (k : ∀ N : xM, N r 2 = pA a → (∀ i : Int, 0 ≤ i → i < pA a → RT N (r + 2) (259 * i) (pP a P T i)) → (∀ b j : Int, ¬ b = r + 2 → ¬ (b = r ∧ j = 2) → N b j = M b j) → Q xU N) : Ru d kMo_keepsAct 0 [xO 9 r, xU] [] M Q := by
  have ha := hw.2.1
  refine vMo_keepsAct_0 ?_
  rw [h2]
  refine ⟨fun y => ?_, fun y => ?_⟩
  · have ep : pA a = a + 1 := if_pos (by omega)
    refine qMo_keeps54 ha.1 (by omega) h2 (fun N n2 nc hf => k N (by omega) (fun i i0 i1 => ?_) (fun b j q1 q2 => hf b j (by omega) q2))
    by_cases c : i = a
    · have hl : pP a P T a = T := if_pos (by omega)
      rw [c, hl]
      exact RT_cp hw.1 h1 (fun j j0 j1 => by rw [nc j j0 j1, Int.zero_add])
    · rw [pP_lt (by omega) (by omega)]
      exact RT_cp (hw.2.2.1 i i0 (by omega)) (h3 i i0 (by omega)) (fun j j0 j1 => hf _ _ (by omega) (by omega))
  · have a10 : a = 10 := by omega
    have ep : pA a = 10 := if_neg (by omega)
    have main : ∀ q : Int, q ≤ 2590 → ∀ N : xM, 259 ≤ q → (∀ j : Int, 0 ≤ j → j < q - 259 → N (r + 2) j = M (r + 2) (j + 259)) → (∀ j : Int, q - 259 ≤ j → N (r + 2) j = M (r + 2) j) → (∀ b j : Int, ¬ b = r + 2 → N b j = M b j) → Ru d kMo_keepsAct 13 [xO 9 r, xI q] [] N Q := by
      refine loop_up 2590 (fun q hq ih N q0 g1 g2 g3 => ?_)
      have n2 : N r 2 = 10 := by rw [g3 _ _ (by omega)]; omega
      refine vMo_keepsAct_13 ?_
      rw [n2, show z32 (10 - 1) = 9 by decide]
      refine ⟨fun y => ?_, fun y => ?_⟩
      · refine qMo_keeps54 (u := 9) (by decide) (by decide) (up_at rfl rfl) (fun N2 m2 nc hf => k N2 (by omega) (fun i i0 i1 => ?_) (fun b j q1 q2 => by rw [hf b j (by omega) q2, up_un (by omega)]; exact g3 b j q1))
        by_cases c : i = 9
        · have hl : pP a P T 9 = T := if_pos (by omega)
          rw [c, hl]
          exact RT_cp hw.1 h1 (fun j j0 j1 => by rw [nc j j0 j1, up_un (by omega), g3 _ _ (by omega), Int.zero_add])
        · rw [pP_ge (by omega) (by omega)]
          refine RT_cp (hw.2.2.1 (i + 1) (by omega) (by omega)) (h3 (i + 1) (by omega) (by omega)) (fun j j0 j1 => ?_)
          rw [hf _ _ (by omega) (by omega), up_un (by omega), g1 _ (by omega) (by omega), show 259 * i + j + 259 = 259 * (i + 1) + j by omega]
      · rw [z32_id (x := q - 259) (by omega) (by omega), z32_id (x := q + 1) (by omega) (by omega)]
        refine ⟨by omega, by omega, ih (q + 1) (by omega) (by omega) _ (by omega) (fun j j0 j1 => ?_) (fun j j0 => ?_) (fun b j c => ?_)⟩
        · by_cases c : j = q - 259
          · rw [up_at rfl c, g2 q (by omega), c, show q - 259 + 259 = q by omega]
          · rw [up_un (by omega)]; exact g1 j j0 (by omega)
        · rw [up_un (by omega)]; exact g2 j (by omega)
        · rw [up_un (by omega)]; exact g3 b j c
    exact main 259 (by decide) M (by decide) (fun j j0 j1 => by omega) (fun j _ => rfl) (fun _ _ _ => rfl)
/-- the reference, an act kept: all but what is laid -/
def ActR (M : xM) (r : Int) (T T2 : TB) (a : Int) (P : Int → TB) (kp : Int) (S : Int → TB) (g : Int → Int) (z : Int) : Prop := RT M (r + 1) 0 T2 ∧ (M r 2 = pA a ∧ ∀ i : Int, 0 ≤ i → i < pA a → RT M (r + 2) (259 * i) (pP a P T i)) ∧ (∀ i : Int, 0 ≤ i → i < 2 → M (r + 4) i = kb kp i ∧ (kb kp i = 1 → RT M (r + 3) (259 * i) (S i))) ∧ RG M r g z
def chD (r b j : Int) : Prop := (b = r ∧ (j = 5 ∨ j = 12 ∨ j = 15 ∨ j = 19 ∨ (20 ≤ j ∧ j ≤ 26))) ∨ (r + 5 ≤ b ∧ b ≤ r + 17)
theorem chT_chD {t b j : Int} (h : ¬ chD r b j) : ¬ chT r t b j := by unfold chD at h; unfold chT; omega
theorem Td_nn {x : Int} (h : isTd T T2 x) : 0 ≤ x ∧ True := by
  obtain ⟨sA, sB, lfA, vlA, lvA, lfB, vlB, lvB, h1, h2, hx⟩ := h
  have c1 := cq_b (badN T T2 vlA lvA) sA.toNat
  have c2 := cq_b (goneN T vlB lvB) sB.toNat
  exact ⟨by omega, trivial⟩
theorem RW1_fr {N : xM} (h : RW M r 1 T) (e : ∀ b j : Int, ¬ chT r 0 b j → N b j = M b j) : RW N r 1 T := by
  obtain ⟨r1, r2, r3, r4, r5⟩ := h
  have hm := r1.1
  have e5 : N (r + 5) 1 = M (r + 5) 1 := e _ _ (by unfold chT; omega)
  have e6 : ∀ i : Int, 0 ≤ i → N (r + 6) (124 * 1 + i) = M (r + 6) (124 * 1 + i) := fun i i0 => e _ _ (by unfold chT; omega)
  have e7 : ∀ i : Int, 0 ≤ i → N (r + 7) (124 * 1 + i) = M (r + 7) (124 * 1 + i) := fun i i0 => e _ _ (by unfold chT; omega)
  have nx : ∀ i : Int, 0 ≤ i → nxF (fun i => N (r + 6) (124 * 1 + i)) (M (r + 5) 1) i = nxF (fun i => M (r + 6) (124 * 1 + i)) (M (r + 5) 1) i := fun i i0 => by
    by_cases q : i + 1 < M (r + 5) 1
    · rw [nxF_in q, nxF_in q]; exact e6 _ (by omega)
    · rw [nxF_end q, nxF_end q]
  refine ⟨?_, by rw [e5]; exact r2, by rw [e _ _ (by unfold chT; omega)]; exact r3, fun l l0 l1 => by rw [e _ _ (by unfold chT; omega)]; exact r4 l l0 l1, fun l l0 l1 => by rw [e _ _ (by unfold chT; omega)]; exact r5 l l0 l1⟩
  rw [e5]
  refine ⟨hm, by show N (r + 6) (124 * 1 + 0) = 0; rw [e6 0 (Int.le_refl _)]; exact r1.2.1, fun i i0 i1 => by rw [nx i i0]; show N (r + 6) (124 * 1 + i) < _; rw [e6 i i0]; exact r1.2.2.1 i i0 i1, fun i i0 i1 x x0 x1 => ?_, fun i i0 i1 => ?_⟩
  · rw [nx i i0] at x1
    have x0' : M (r + 6) (124 * 1 + i) ≤ x := by rw [← e6 i i0]; exact x0
    show cod T x = N (r + 7) (124 * 1 + i)
    rw [e7 i i0]
    exact r1.2.2.2.1 i i0 i1 x x0' x1
  · show ¬ N (r + 7) (124 * 1 + i) = N (r + 7) (124 * 1 + (i + 1))
    rw [e7 i i0, e7 (i + 1) (by omega)]
    exact r1.2.2.2.2 i i0 i1
theorem qMo_isDone {m : Int} {lf vl lv : Int → Int} (hw : Wf T a P kp S) (hw2 : tWF T2) (hA : ActR M r T T2 a P kp S g z) (hnum : isNum T m lf vl lv) (hm : m ≤ 3000) (k : ∀ (N : xM) (t2 : Int), 0 ≤ t2 → isTd T2 T t2 → Ref N r T2 (pA a) (pP a P T) kp S t2 g z → (∀ b j : Int, ¬ chD r b j → N b j = M b j) → Q xU N) : Ru (d + 10) kMo_isDone 0 [xO 9 r] [] M Q := by
  obtain ⟨h1, ⟨h2, h3⟩, h4, h5⟩ := hA
  have hp := pA_in hw.2.1.1 hw.2.1.2
  refine vMo_isDone_0 ?_
  rw [h2, z32_id (x := pA a - 1) (by omega) (by omega), z32_id (by omega) (by omega)]
  have hT : RT M (r + 2) (259 * (pA a - 1)) T := by have := h3 (pA a - 1) (by omega) (by omega); rw [pP_last] at this; exact this
  refine qMo_laysTable hw.1 hT (by omega) (by omega) (by omega) (Or.inr rfl) (by omega) (by omega) (fun N1 hW1 _ hf1 => vMo_isDone_19 ?_)
  have hT1 : RT N1 (r + 1) 0 T2 := RT_fr h1 (fun j => hf1 _ _ (by unfold chT; omega))
  refine qMo_laysTable hw2 hT1 (by decide) (by decide) (by decide) (Or.inl rfl) (by omega) (by omega) (fun N2 hW2 hn2 hf2 => vMo_isDone_29 ?_)
  obtain ⟨hNS, h19⟩ := hn2 rfl
  have hRL : RL N2 r T2 := ⟨hW2, hNS⟩
  have hW12 : RW N2 r 1 T := RW1_fr hW1 hf2
  have hnum2 := RL_num hw2 hRL
  have rb2 := RL_b hw2 hRL
  refine qMo_othersNow hw2 hw.1 hRL hW12 (fun N3 hf3 => vMo_isDone_34 ?_)
  have hW03 : RW N3 r 0 T2 := RW_fr hW2 (fun b j b0 b1 => hf3 b j (by omega) (by omega) (by omega))
  have hW13 : RW N3 r 1 T := RW_fr hW12 (fun b j b0 b1 => hf3 b j (by omega) (by omega) (by omega))
  have c1 := cq_b (badN T2 T (N2 (r + 14)) (N2 (r + 13))) (N2 r 15).toNat
  have c2 := cq_b (goneN T2 vl lv) m.toNat
  refine qMo_goneNow hw2 hw.1 hW03 hW13 hnum hm (vMo_isDone_38 ?_)
  rw [z32_id (by omega) (by omega)]
  have hfa : ∀ b j : Int, ¬ chD r b j → N3 b j = M b j := fun b j q => by
    rw [hf3 b j (by unfold chD at q; omega) (by unfold chD at q; omega) (by unfold chD at q; omega), hf2 b j (chT_chD q), hf1 b j (chT_chD q)]
  have hfb : ∀ b j x : Int, ¬ chD r b j → up N3 r 5 x b j = M b j := fun b j x q => by
    rw [up_un (by unfold chD at q; omega)]; exact hfa b j q
  refine k _ _ (by omega) ⟨_, _, _, _, _, _, _, _, hnum2, hnum, rfl⟩ ⟨RT_fr h1 (fun j => hfb _ _ _ (by unfold chD; omega)), RL_fr hRL (fun b j b0 b1 => by rw [up_un (by omega)]; exact hf3 b j (by omega) (by omega) (by omega)) (by rw [up_un (by omega)]; exact hf3 _ _ (by omega) (by omega) (by omega)), Or.inl (by rw [up_un (by omega), hf3 _ _ (by omega) (by omega) (by omega)]; exact h19), ⟨by rw [hfb _ _ _ (by unfold chD; omega)]; exact h2, fun i i0 i1 => RT_fr (h3 i i0 i1) (fun j => hfb _ _ _ (by unfold chD; omega))⟩, fun i i0 i1 => ⟨by rw [hfb _ _ _ (by unfold chD; omega)]; exact (h4 i i0 i1).1, fun q => RT_fr ((h4 i i0 i1).2 q) (fun j => hfb _ _ _ (by unfold chD; omega))⟩, up_at rfl rfl, RG_fr h5 (hfb _ _ _ (by unfold chD; omega)) (fun j => hfb _ _ _ (by unfold chD; omega))⟩ (fun b j q => hfb b j _ q)
theorem chD_fr {b j : Int} (h : ¬ (r ≤ b ∧ b ≤ r + 32)) : ¬ chD r b j := by unfold chD; omega
end RActs

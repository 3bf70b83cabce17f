/-! WHAT IS TOUCHED IS THE SAME BOTH WAYS; would. -/
section Sym
theorem same_sym {T1 T2 : TB} {l v : Int} (h : sameN T1 T2 l v v) : sameN T2 T1 l v v := ⟨h.1.symm, h.2.1.symm, h.2.2.1.symm, fun j k j1 k1 hj hk e => (h.2.2.2 k j k1 j1 hk hj e.symm).symm⟩
variable {T1 T2 : TB} {sA sB : Int} {lfA vlA lvA lfB vlB lvB : Int → Int}
def lx (l v l2 v2 : Int) : Prop := l < l2 ∨ (l = l2 ∧ v < v2)
theorem td_aux (hw1 : tWF T1) (hw2 : tWF T2) (hA : isNum T1 sA lfA vlA lvA) (hB : isNum T2 sB lfB vlB lvB) : ∀ (N : Nat) (m n : Int), 0 ≤ m → m ≤ sA → 0 ≤ n → n ≤ sB → (sA - m) + (sB - n) = N → (m < sA → ∀ j : Int, 0 ≤ j → j < n → lx (lvB j) (vlB j) (lvA m) (vlA m)) → (n < sB → ∀ i : Int, 0 ≤ i → i < m → lx (lvA i) (vlA i) (lvB n) (vlB n)) → (cq (badN T1 T2 vlA lvA) sA.toNat - cq (badN T1 T2 vlA lvA) m.toNat) + (cq (goneN T1 vlB lvB) sB.toNat - cq (goneN T1 vlB lvB) n.toNat) = (cq (badN T2 T1 vlB lvB) sB.toNat - cq (badN T2 T1 vlB lvB) n.toNat) + (cq (goneN T2 vlA lvA) sA.toNat - cq (goneN T2 vlA lvA) m.toNat)
  | 0, m, n, m0, m1, n0, n1, e, _, _ => by
    rw [show m = sA by omega, show n = sB by omega]
    omega
  | N + 1, m, n, m0, m1, n0, n1, e, i1, i2 => by
    -- a node of the first that is not in the other
    have stepA : m < sA → (n < sB → lx (lvA m) (vlA m) (lvB n) (vlB n)) → (cq (badN T1 T2 vlA lvA) sA.toNat - cq (badN T1 T2 vlA lvA) m.toNat) + (cq (goneN T1 vlB lvB) sB.toNat - cq (goneN T1 vlB lvB) n.toNat) = (cq (badN T2 T1 vlB lvB) sB.toNat - cq (badN T2 T1 vlB lvB) n.toNat) + (cq (goneN T2 vlA lvA) sA.toNat - cq (goneN T2 vlA lvA) m.toNat) := by
      intro hm hlt
      have out : goneN T2 vlA lvA m := by
        intro hin
        obtain ⟨j, j0, j1, el, ev⟩ := in_num hw2 hB hin (num_in hw1 hA m0 hm).2
        by_cases c : j < n
        · have := i1 hm j j0 c
          unfold lx at this
          omega
        · have h1 := hlt (by omega)
          unfold lx at h1
          by_cases c2 : j = n
          · subst c2; omega
          · have := num_lt hw2 hB n0 (show n < j by omega) j1
            omega
      have bad : badN T1 T2 vlA lvA m := fun h => out h.1
      have ih := td_aux hw1 hw2 hA hB N (m + 1) n (by omega) (by omega) n0 n1 (by omega) (fun h j j0 j1 => by
        have h1 := i1 hm j j0 j1
        have h2 := num_lt hw1 hA m0 (show m < m + 1 by omega) h
        unfold lx at h1 ⊢
        omega) (fun h i i0 i3 => by
        by_cases c : i = m
        · rw [c]; exact hlt h
        · exact i2 h i i0 (by omega))
      rw [cq_y m0 bad, cq_y m0 out] at ih
      omega
    have stepB : n < sB → (m < sA → lx (lvB n) (vlB n) (lvA m) (vlA m)) → (cq (badN T1 T2 vlA lvA) sA.toNat - cq (badN T1 T2 vlA lvA) m.toNat) + (cq (goneN T1 vlB lvB) sB.toNat - cq (goneN T1 vlB lvB) n.toNat) = (cq (badN T2 T1 vlB lvB) sB.toNat - cq (badN T2 T1 vlB lvB) n.toNat) + (cq (goneN T2 vlA lvA) sA.toNat - cq (goneN T2 vlA lvA) m.toNat) := by
      intro hn hlt
      have out : goneN T1 vlB lvB n := by
        intro hin
        obtain ⟨j, j0, j1, el, ev⟩ := in_num hw1 hA hin (num_in hw2 hB n0 hn).2
        by_cases c : j < m
        · have := i2 hn j j0 c
          unfold lx at this
          omega
        · have h1 := hlt (by omega)
          unfold lx at h1
          by_cases c2 : j = m
          · subst c2; omega
          · have := num_lt hw1 hA m0 (show m < j by omega) j1
            omega
      have bad : badN T2 T1 vlB lvB n := fun h => out h.1
      have ih := td_aux hw1 hw2 hA hB N m (n + 1) m0 m1 (by omega) (by omega) (by omega) (fun h j j0 j3 => by
        by_cases c : j = n
        · rw [c]; exact hlt h
        · exact i1 h j j0 (by omega)) (fun h i i0 i3 => by
        have h1 := i2 hn i i0 i3
        have h2 := num_lt hw2 hB n0 (show n < n + 1 by omega) h
        unfold lx at h1 ⊢
        omega)
      rw [cq_y n0 bad, cq_y n0 out] at ih
      omega
    by_cases hm : m < sA
    · by_cases hn : n < sB
      · by_cases c1 : lx (lvA m) (vlA m) (lvB n) (vlB n)
        · exact stepA hm (fun _ => c1)
        · by_cases c2 : lx (lvB n) (vlB n) (lvA m) (vlA m)
          · exact stepB hn (fun _ => c2)
          · unfold lx at c1 c2
            have el : lvA m = lvB n := by omega
            have ev : vlA m = vlB n := by omega
            have inA := (num_in hw1 hA m0 hm).1
            have inB := (num_in hw2 hB n0 hn).1
            have gA : ¬ goneN T2 vlA lvA m := fun h => h (by rw [el, ev]; exact inB)
            have gB : ¬ goneN T1 vlB lvB n := fun h => h (by rw [← el, ← ev]; exact inA)
            cases N with
            | zero => omega
            | succ N =>
              have ih := td_aux hw1 hw2 hA hB N (m + 1) (n + 1) (by omega) (by omega) (by omega) (by omega) (by omega) (fun h j j0 j3 => by
                have h2 := num_lt hw1 hA m0 (show m < m + 1 by omega) h
                by_cases c : j = n
                · rw [c, ← el, ← ev]; exact h2
                · have h1 := i1 hm j j0 (by omega)
                  unfold lx at h1 ⊢
                  omega) (fun h i i0 i3 => by
                have h2 := num_lt hw2 hB n0 (show n < n + 1 by omega) h
                by_cases c : i = m
                · rw [c, el, ev]; exact h2
                · have h1 := i2 hn i i0 (by omega)
                  unfold lx at h1 ⊢
                  omega)
              rw [cq_n m0 gA, cq_n n0 gB] at ih
              by_cases hs : sameN T1 T2 (lvA m) (vlA m) (vlA m)
              · have b1 : ¬ badN T1 T2 vlA lvA m := fun h => h ⟨by rw [el, ev]; exact inB, hs⟩
                have b2 : ¬ badN T2 T1 vlB lvB n := fun h => h ⟨by rw [← el, ← ev]; exact inA, by rw [← el, ← ev]; exact same_sym hs⟩
                rw [cq_n m0 b1, cq_n n0 b2] at ih
                exact ih
              · have b1 : badN T1 T2 vlA lvA m := fun h => hs h.2
                have b2 : badN T2 T1 vlB lvB n := fun h => hs (by rw [el, ev]; exact same_sym h.2)
                rw [cq_y m0 b1, cq_y n0 b2] at ih
                omega
      · exact stepA hm (fun h => absurd h hn)
    · exact stepB (by omega) (fun h => absurd h hm)
theorem Td_sym {x : Int} (hw1 : tWF T1) (hw2 : tWF T2) (h : isTd T1 T2 x) : isTd T2 T1 x := by
  obtain ⟨sA, sB, lfA, vlA, lvA, lfB, vlB, lvB, hA, hB, hx⟩ := h
  have a0 := num_0 hw1 hA
  have b0 := num_0 hw2 hB
  have := td_aux hw1 hw2 hA hB ((sA - 0) + (sB - 0)).toNat 0 0 (by decide) (by omega) (by decide) (by omega) (by omega) (fun _ j j0 j1 => by omega) (fun _ i i0 i1 => by omega)
  have z1 : ∀ P : Int → Prop, cq P (0 : Int).toNat = 0 := fun _ => rfl
  rw [z1, z1, z1, z1] at this
  exact ⟨sB, sA, lfB, vlB, lvB, lfA, vlA, lvA, hB, hA, by omega⟩
end Sym
section Would
variable {d : Nat} {M N : xM} {Q : xQ} {s r : Int} {T T2 : TB} {a a2 : Int} {P : Int → TB} {kp : Int} {S : Int → TB} {tt : Int} {g g2 : Int → Int} {z z2 : Int}
def spWould (T : TB) (v l u w x : Int) : Prop := (¬ (isB v l ∧ isWy u w) ∧ x = -1) ∨ ((isB v l ∧ isWy u w) ∧ (∃ p : Int, isAt T (uns v) l p ∧ tK T (tH T p) = 10 * u + w) ∧ x = 0) ∨ ((isB v l ∧ isWy u w) ∧ (∀ p : Int, ¬ isAt T (uns v) l p) ∧ ¬ tN T < 60 ∧ x = -3) ∨ ((isB v l ∧ isWy u w) ∧ (∀ p : Int, isAt T (uns v) l p → ¬ tK T (tH T p) = 10 * u + w) ∧ ((∀ p : Int, ¬ isAt T (uns v) l p) → tN T < 60) ∧ ∃ T2 : TB, isPut T (uns v) l (10 * u + w) T2 ∧ isTd T T2 x)
theorem aRS_would {v l u w : Int} (hw : Wf T a P kp S) (hC : Cls M s T a P kp S tt g z) (kk : ∀ (N : xM) (x : Int), spWould T v l u w x → Cls N s T a P kp S tt g z → frC M N s → Q (xI x) N) : Ru (d + 100) kRS_would 0 [xO 8 s, xI v, xI l, xI u, xI w, xU, xU] [] M Q := by
  have un := uns_in v
  have hn := hw.1.1
  have hZ := hw.1.2.2.2.2.2.1
  refine vRS_would_0 (qRS_isBeginning (fun hb => vRS_would_5 ⟨fun q => absurd q (by decide), fun _ => ?_⟩) (fun hb => vRS_would_5 ⟨fun _ => kk M _ (Or.inl ⟨fun c => hb c.1, rfl⟩) hC frC_r, fun q => absurd rfl q⟩))
  refine qRS_isWay (fun hy => vRS_would_14 ⟨fun _ => qRS_keyOf hy (vRS_would_25 ?_), fun q => absurd (by decide) q⟩) (fun hy => vRS_would_14 ⟨fun q => absurd rfl q, fun _ => kk M _ (Or.inl ⟨fun c => hy c.2, rfl⟩) hC frC_r⟩)
  refine qRS_stateOf hw hC (fun n1 n2 => vRS_would_35 ⟨fun _ => ?_, fun q => absurd rfl q⟩) (fun p hp hk => vRS_would_35 ⟨fun q => absurd q (by decide), fun _ => ⟨fun q => absurd rfl q, fun _ => kk M _ (Or.inr (Or.inl ⟨⟨hb, hy⟩, ⟨p, hp, hk⟩, rfl⟩)) hC frC_r⟩⟩) (fun n1 n2 => vRS_would_35 ⟨fun q => absurd q (by decide), fun _ => ⟨fun _ => kk M _ (Or.inr (Or.inr (Or.inl ⟨⟨hb, hy⟩, n1, n2, rfl⟩))) hC frC_r, fun q => absurd (by decide) q⟩⟩)
  have hc := wy_c hy
  refine qTable_copyFrom (by omega) (fun N hcp hf => vRS_would_67 (qRS_unsigned (vRS_would_75 ?_)))
  have hT := hcp T (by omega) (by omega) hC.1
  refine qTable_put hw.1 hT un.1 un.2 hb.1 hb.2.1 hb.2.2 hc.1 hc.2 n2 (fun T2 N2 p hp hpa hc2 hf2 => vRS_would_81 ?_)
  have hw2 := isPut_wf hw.1 hp un.1 un.2 hb.1 hb.2.1 hb.2.2 hc.1 hc.2
  have hN2 : Cls N2 s T a P kp S tt g z := Cls_s hw hC (fun b j h1 h2 h3 h4 h5 => by rw [hf2 b j (by omega)]; exact hf b j (by omega))
  refine qRS_seeNodes hw hN2 (fun N3 hN3 hT3 _ hf3 => vRS_would_86 ?_)
  have hc3 : CT N3 (s + 10) T2 := CT_fr hc2 (fun b j b0 b1 => hf3 b j (by omega) (by omega) (by omega))
  refine qRS_touchedAgainst hw hw2 hN3 hT3 hc3 (by omega) (fun N4 x hx hN4 hf4 => vRS_would_94 (kk N4 x (Or.inr (Or.inr (Or.inr ⟨⟨hb, hy⟩, n1, n2, T2, hp, hx⟩))) hN4 (fun b j h => ?_)))
  rw [hf4 b j (by omega) (by omega), hf3 b j (by omega) (by omega) (by omega), hf2 b j (by omega)]
  exact hf b j (by omega)
theorem aMo_would {v l u w x : Int} (hw : Wf T a P kp S) (hR : Ref M r T a P kp S tt g z) (h : spWould T v l u w x) (kk : ∀ N : xM, Ref N r T a P kp S tt g z → frR M N r → Q (xI x) N) : Ru (d + 100) kMo_would 0 [xO 9 r, xI v, xI l, xI u, xI w, xU, xU, xU, xU] [] M Q := by
  have hq := kk M hR frR_r
  rcases h with ⟨c, hx⟩ | ⟨⟨hb, hy⟩, ⟨p, hp, hk⟩, hx⟩ | ⟨⟨hb, hy⟩, n1, n2, hx⟩ | ⟨⟨hb, hy⟩, n1, n2, T2, hput, hx⟩
  · refine vMo_would_0 (qMo_isBeginning (fun hb => vMo_would_5 ⟨fun q => absurd q (by decide), fun _ => qMo_isWay (fun hy => absurd ⟨hb, hy⟩ c) (fun hy => vMo_would_14 ⟨fun q => absurd rfl q, fun _ => qe hq hx.symm⟩)⟩) (fun hb => vMo_would_5 ⟨fun _ => qe hq hx.symm, fun q => absurd rfl q⟩))
  · refine vMo_would_0 (qMo_isBeginning (fun _ => vMo_would_5 ⟨fun q => absurd q (by decide), fun _ => qMo_isWay (fun _ => vMo_would_14 ⟨fun _ => qMo_unsigned (vMo_would_33 ?_), fun q => absurd (by decide) q⟩) (fun n => absurd hy n)⟩) (fun n => absurd hb n))
    unfold isWy at hy
    rw [z32_id (x := 10 * u) (by omega) (by omega), z32_id (by omega) (by omega)]
    exact qMo_hasIt hw.1 hR.1 (fun q hq2 _ => vMo_would_39 ⟨fun c => absurd c (by decide), fun _ => qe hq hx.symm⟩) (fun n => absurd hk (n p hp))
  · refine vMo_would_0 (qMo_isBeginning (fun _ => vMo_would_5 ⟨fun q => absurd q (by decide), fun _ => qMo_isWay (fun _ => vMo_would_14 ⟨fun _ => qMo_unsigned (vMo_would_33 ?_), fun q => absurd (by decide) q⟩) (fun n => absurd hy n)⟩) (fun n => absurd hb n))
    unfold isWy at hy
    rw [z32_id (x := 10 * u) (by omega) (by omega), z32_id (by omega) (by omega)]
    refine qMo_hasIt hw.1 hR.1 (fun q hq2 _ => absurd hq2 (n1 q)) (fun _ => vMo_would_39 ⟨fun _ => ⟨by decide, ?_⟩, fun c => absurd rfl c⟩)
    rw [(RN_of.mp hR.1).1]
    have hn := hw.1.1
    exact ⟨fun y => by omega, fun _ => qMo_unsigned (vMo_would_60 (qMo_find hR.1 hw.1 (fun q hq2 => absurd hq2 (n1 q)) (fun _ => vMo_would_64 ⟨fun y => absurd rfl y, fun _ => qe hq hx.symm⟩)))⟩
  · have hc := wy_c hy
    have un := uns_in v
    have rb := RL_b hw.1 hR.2.1
    have hnum := RL_num hw.1 hR.2.1
    have hw2 := isPut_wf hw.1 hput un.1 un.2 hb.1 hb.2.1 hb.2.2 hc.1 hc.2
    have hxs := Td_sym hw.1 hw2 hx
    have go : Ru (d + 100) kMo_would 74 [xO 9 r, xI v, xI l, xI u, xI w, xI (10 * u + w), xI 0, xU, xU] [] M Q := by
      have main : ∀ q : Int, q ≤ 259 → ∀ N : xM, 0 ≤ q → (∀ j : Int, 0 ≤ j → j < q → N (r + 18) j = M (r + 1) j) → (∀ b j : Int, ¬ b = r + 18 → N b j = M b j) → Ru (d + 100) kMo_would 74 [xO 9 r, xI v, xI l, xI u, xI w, xI (10 * u + w), xI q, xU, xU] [] N Q := by
        refine loop_up 259 (fun q hq2 ih N q0 g1 g2 => ?_)
        refine vMo_would_74 ⟨fun y => ?_, fun y => ?_⟩
        · have hT18 : RT N (r + 18) 0 T := RT_cp hw.1 hR.1 (fun j j0 j1 => by rw [Int.zero_add]; exact g1 j j0 (by omega))
          refine qMo_laysTable hw.1 hT18 (by decide) (by decide) (by decide) (Or.inr rfl) (by omega) (by omega) (fun N1 hW1 _ hf1 => vMo_would_112 (qMo_unsigned (vMo_would_117 ?_)))
          have hT1 : RT N1 (r + 1) 0 T := RT_fr hR.1 (fun j => by rw [hf1 _ _ (by unfold chT; omega)]; exact g2 _ _ (by omega))
          refine qMo_puts hw.1 (RN_of.mp hT1) un.1 un.2 hb.1 hb.2.1 hb.2.2 hc.1 hc.2 n2 (fun T3 N2 p3 hp3 hpa3 hc3 hf2 => vMo_would_123 ?_)
          have e3 : T3 = T2 := isPut_u hw.1 hp3 hput
          subst e3
          refine qMo_laysTable hw2 (RN_of.mpr hc3) (by decide) (by decide) (by decide) (Or.inl rfl) (by omega) (by omega) (fun N3 hW3 hn3 hf3 => vMo_would_135 ?_)
          obtain ⟨hNS, h19⟩ := hn3 rfl
          have hRL : RL N3 r T3 := ⟨hW3, hNS⟩
          have hW13 : RW N3 r 1 T := RW1_fr (RW_fr hW1 (fun b j b0 b1 => hf2 b j (by omega))) hf3
          have hnum3 := RL_num hw2 hRL
          have rb3 := RL_b hw2 hRL
          refine qMo_othersNow hw2 hw.1 hRL hW13 (fun N4 hf4 => vMo_would_139 ?_)
          have hW04 : RW N4 r 0 T3 := RW_fr hW3 (fun b j b0 b1 => hf4 b j (by omega) (by omega) (by omega))
          have hW14 : RW N4 r 1 T := RW_fr hW13 (fun b j b0 b1 => hf4 b j (by omega) (by omega) (by omega))
          have c1 := cq_b (badN T3 T (N3 (r + 14)) (N3 (r + 13))) (N3 r 15).toNat
          have c2 := cq_b (goneN T3 (M (r + 14)) (M (r + 13))) (M r 15).toNat
          refine qMo_goneNow hw2 hw.1 hW04 hW14 hnum (by omega) (vMo_would_143 ?_)
          rw [z32_id (by omega) (by omega)]
          have hx4 : cq (badN T3 T (N3 (r + 14)) (N3 (r + 13))) (N3 r 15).toNat + cq (goneN T3 (M (r + 14)) (M (r + 13))) (M r 15).toNat = x := isTd_u hw2 hw.1 ⟨_, _, _, _, _, _, _, _, hnum3, hnum, rfl⟩ hxs
          rw [hx4]
          have hf5 : ∀ b j : Int, ¬ chD r b j → ¬ b = r + 1 → ¬ b = r + 18 → N4 b j = M b j := fun b j q1 q2 q3 => by
            rw [hf4 b j (by unfold chD at q1; omega) (by unfold chD at q1; omega) (by unfold chD at q1; omega), hf3 b j (chT_chD q1), hf2 b j q2, hf1 b j (chT_chD q1)]
            exact g2 b j q3
          have h18 : ∀ j : Int, 0 ≤ j → j < 259 → N4 (r + 18) j = M (r + 1) j := fun j j0 j1 => by
            rw [hf4 _ _ (by omega) (by omega) (by omega), hf3 _ _ (by unfold chT; omega), hf2 _ _ (by omega), hf1 _ _ (by unfold chT; omega)]
            exact g1 j j0 (by omega)
          have main2 : ∀ q : Int, q ≤ 259 → ∀ N : xM, 0 ≤ q → (∀ j : Int, 0 ≤ j → j < q → N (r + 1) j = M (r + 1) j) → (∀ b j : Int, ¬ b = r + 1 → N b j = N4 b j) → Ru (d + 100) kMo_would 149 [xO 9 r, xI v, xI l, xI u, xI w, xI (10 * u + w), xI p3, xI x, xI q] [] N Q := by
            refine loop_up 259 (fun q hq2 ih N q0 k1 k2 => ?_)
            refine vMo_would_149 ⟨fun y => ?_, fun y => ?_⟩
            · have hTN : RT N (r + 1) 0 T := RT_cp hw.1 hR.1 (fun j j0 j1 => by rw [Int.zero_add]; exact k1 j j0 (by omega))
              refine qMo_laysTable hw.1 hTN (by decide) (by decide) (by decide) (Or.inl rfl) (by omega) (by omega) (fun N6 hW6 hn6 hf6 => vMo_would_187 ?_)
              obtain ⟨hNS6, h196⟩ := hn6 rfl
              have hf7 : ∀ b j : Int, ¬ chD r b j → ¬ b = r + 1 → ¬ b = r + 18 → N6 b j = M b j := fun b j q1 q2 q3 => by
                rw [hf6 b j (chT_chD q1), k2 b j q2]; exact hf5 b j q1 q2 q3
              have e5 : N6 r 5 = M r 5 := by
                rw [hf6 _ _ (by unfold chT; omega), k2 _ _ (by omega), hf4 _ _ (by omega) (by omega) (by omega), hf3 _ _ (by unfold chT; omega), hf2 _ _ (by omega), hf1 _ _ (by unfold chT; omega)]
                exact g2 _ _ (by omega)
              obtain ⟨-, -, -, r4, r5, r6, r7⟩ := id hR
              exact kk N6 ⟨RT_fr hTN (fun j => hf6 _ _ (by unfold chT; omega)), ⟨hW6, hNS6⟩, Or.inl h196, ⟨by rw [hf7 _ _ (by unfold chD; omega) (by omega) (by omega)]; exact r4.1, fun i i0 i1 => RT_fr (r4.2 i i0 i1) (fun j => hf7 _ _ (by unfold chD; omega) (by omega) (by omega))⟩, fun i i0 i1 => ⟨by rw [hf7 _ _ (by unfold chD; omega) (by omega) (by omega)]; exact (r5 i i0 i1).1, fun q => RT_fr ((r5 i i0 i1).2 q) (fun j => hf7 _ _ (by unfold chD; omega) (by omega) (by omega))⟩, by rw [e5]; exact r6, RG_fr r7 (hf7 _ _ (by unfold chD; omega) (by omega) (by omega)) (fun j => hf7 _ _ (by unfold chD; omega) (by omega) (by omega))⟩ (fun b j h => hf7 b j (chD_fr h) (by omega) (by omega))
            · rw [z32_id (x := q + 1) (by omega) (by omega)]
              refine ⟨by omega, by omega, ih (q + 1) (by omega) (by omega) _ (by omega) (fun j j0 j1 => ?_) (fun b j c => by rw [up_un (by omega)]; exact k2 b j c)⟩
              by_cases c : j = q
              · rw [c, up_at rfl rfl, k2 _ _ (by omega)]; exact h18 q q0 (by omega)
              · rw [up_un (by omega)]; exact k1 j j0 (by omega)
          exact main2 0 (by decide) N4 (by decide) (fun j j0 j1 => by omega) (fun _ _ _ => rfl)
        · rw [z32_id (x := q + 1) (by omega) (by omega)]
          refine ⟨by omega, by omega, ih (q + 1) (by omega) (by omega) _ (by omega) (fun j j0 j1 => ?_) (fun b j c => by rw [up_un (by omega)]; exact g2 b j c)⟩
          by_cases c : j = q
          · rw [c, up_at rfl rfl]; exact g2 _ _ (by omega)
          · rw [up_un (by omega)]; exact g1 j j0 (by omega)
      exact main 0 (by decide) M (by decide) (fun j j0 j1 => by omega) (fun _ _ _ => rfl)
    refine vMo_would_0 (qMo_isBeginning (fun _ => vMo_would_5 ⟨fun q => absurd q (by decide), fun _ => qMo_isWay (fun _ => vMo_would_14 ⟨fun _ => qMo_unsigned (vMo_would_33 ?_), fun q => absurd (by decide) q⟩) (fun n => absurd hy n)⟩) (fun n => absurd hb n))
    unfold isWy at hy
    rw [z32_id (x := 10 * u) (by omega) (by omega), z32_id (by omega) (by omega)]
    refine qMo_hasIt hw.1 hR.1 (fun q hq hk => absurd hk (n1 q hq)) (fun _ => vMo_would_39 ⟨fun _ => ⟨by decide, ?_⟩, fun c => absurd rfl c⟩)
    rw [(RN_of.mp hR.1).1]
    refine ⟨fun y => go, fun y => qMo_unsigned (vMo_would_60 (qMo_find hR.1 hw.1 (fun q hq => vMo_would_64 ⟨fun _ => go, fun y2 => ?_⟩) (fun hno => ?_)))⟩
    · have := hq.1; omega
    · have := n2 hno; omega
theorem bo_would (v l u w : Int) : Bo kRS_would [xO 8 0, xI v, xI l, xI u, xI w, xU, xU] kMo_would [xO 9 198, xI v, xI l, xI u, xI w, xU, xU, xU, xU] xI :=
  bo_q (fun σ x => spWould σ.1 v l u w x) (fun _ _ _ _ _ _ _ _ _ _ _ hw hC kk => aRS_would hw hC kk) (fun _ _ _ _ _ _ _ _ _ _ _ _ hw hR h kk => aMo_would hw hR h kk)
end Would

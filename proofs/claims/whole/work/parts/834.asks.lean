/-! CALLS THAT ASK: reach, span, within, fewest, cover, own, best, differs. -/
section Own2
variable {d : Nat} {M : xM} {Q : xQ} {T : TB} {s r g k w : Int}
theorem qMo_ownAt2 (hw : tWF T) (hR : RW M r 0 T) (hg : okH T g) (k0 : -1 ≤ k) (k1 : k < 2147483648) (hw01 : w = 0 ∨ w = 1) (h : ∀ N : xM, (k = -1 → -8000 ≤ oS T (M (r + 6)) (M (r + 5) 0) g k w (M (r + 5) 0).toNat 0 0 ∧ oS T (M (r + 6)) (M (r + 5) 0) g k w (M (r + 5) 0).toNat 0 0 ≤ -3) → (∀ b j : Int, ¬ (b = r ∧ j = 29) → ¬ b = r + 19 → ¬ b = r + 20 → N b j = M b j) → Q (xL (oS T (M (r + 6)) (M (r + 5) 0) g k w (M (r + 5) 0).toNat 0 0)) N) : Ru (d + 2) kMo_ownAt 0 [xO 9 r, xI (hk T g), xI k, xI w, xU, xU, xU] [] M Q := by
  have b1 := hR.2.1
  have r1 := RW_0 hR
  have hm := r1.1
  have e6 : (fun i => M (r + 6) (124 * 0 + i)) = M (r + 6) := funext fun i => by rw [show (124 : Int) * 0 + i = i by omega]
  refine vMo_ownAt_0 ?_
  have main : ∀ i : Int, i ≤ M (r + 5) 0 → ∀ (N : xM) (n : Int) (w6 : xV), 0 ≤ i → 0 ≤ n → n ≤ 64 * i → oS T (M (r + 6)) (M (r + 5) 0) g k w (M (r + 5) 0 - i).toNat i n = oS T (M (r + 6)) (M (r + 5) 0) g k w (M (r + 5) 0).toNat 0 0 → (∀ b j : Int, ¬ (b = r ∧ j = 29) → ¬ b = r + 19 → ¬ b = r + 20 → N b j = M b j) → Ru (d + 2) kMo_ownAt 6 [xO 9 r, xI (hk T g), xI k, xI w, xI n, xI i, w6] [] N Q := by
    refine loop_up (M (r + 5) 0) (fun i hi ih N n w6 i0 n0 n1 hO hf => ?_)
    refine vMo_ownAt_6 ?_
    rw [hf (r + 5) 0 (by omega) (by omega) (by omega), hf (r + 6) i (by omega) (by omega) (by omega), hf (r + 7) i (by omega) (by omega) (by omega)]
    refine ⟨by decide, fun y => ?_, fun y => ⟨by omega, fun y2 => ⟨by omega, ?_⟩, fun y2 => ?_⟩⟩
    · have ei : i = M (r + 5) 0 := by omega
      have e0 : oS T (M (r + 6)) (M (r + 5) 0) g k w (0 : Int).toNat (M (r + 5) 0) n = -3 - n := rfl
      have eX : oS T (M (r + 6)) (M (r + 5) 0) g k w (M (r + 5) 0).toNat 0 0 = -3 - n := by rw [← hO, ei, Int.sub_self]; exact e0
      have h' := h N (fun _ => by rw [eX]; omega) hf
      rw [eX] at h'
      rw [z32_id (by omega) (by omega)]
      exact h'
    · have hin := rows_in r1 i0 (show i < M (r + 5) 0 by omega)
      have hlt := r1.2.2.1 i i0 (by omega)
      have nx := rows_nx r1 i0 (show i < M (r + 5) 0 by omega)
      have hhp : hp T (M (r + 6) i) = g := by rw [← hk_iff hw hg, r1.2.2.2.1 i i0 (by omega) _ (Int.le_refl _) hlt]; exact y2
      have hRN : RW N r 0 T := RW_fr hR (fun b j b0 b1 => hf b j (by omega) (by omega) (by omega))
      have g5 : N (r + 5) 0 = M (r + 5) 0 := hf _ _ (by omega) (by omega) (by omega)
      have g6 : (fun i => N (r + 6) (124 * 0 + i)) = M (r + 6) := by rw [← e6]; funext j; exact hf _ _ (by omega) (by omega) (by omega)
      refine qMo_behindRow hRN (Or.inl rfl) i0 (by omega) ?_
      rw [g5, g6]
      refine vMo_ownAt_47 ?_
      rw [z64_id (by omega) (by omega)]
      refine qMo_covers (fun z => ?_) (fun _ N2 hp2 hf2 => vMo_ownAt_53 ?_)
      · rw [uns_z, uns_z, uns_id hin.1 hin.2, uns_id (by omega) (by omega)] at z
        omega
      rw [uns_z, uns_z, uns_id hin.1 hin.2, uns_id (by omega) (by omega), show nxF (M (r + 6)) (M (r + 5) 0) i - 1 + 1 = nxF (M (r + 6)) (M (r + 5) 0) i by omega] at hp2
      obtain ⟨pe1, pe2⟩ := pc_eq hp2
      have pb := hp2.1
      have hf3 : ∀ b j : Int, ¬ (b = r ∧ j = 29) → ¬ b = r + 19 → ¬ b = r + 20 → N2 b j = M b j := fun b j h7 h8 h9 => by rw [hf2 b j h7 h8 h9]; exact hf b j h7 h8 h9
      have hu : oS T (M (r + 6)) (M (r + 5) 0) g k w (M (r + 5) 0 - i).toNat i n = if n ≤ k ∧ k < n + N2 r 29 then (if w = 0 then N2 (r + 20) (k - n) else N2 (r + 19) (k - n)) else oS T (M (r + 6)) (M (r + 5) 0) g k w (M (r + 5) 0 - (i + 1)).toNat (i + 1) (n + N2 r 29) := by
        rw [show (M (r + 5) 0 - i).toNat = (M (r + 5) 0 - (i + 1)).toNat + 1 by omega]
        show (if hp T (M (r + 6) i) = g then _ else _) = _
        rw [if_pos hhp, ← pe1]
        by_cases z : n ≤ k ∧ k < n + N2 r 29
        · rw [if_pos z, if_pos z, (pe2 (k - n) (by omega) (by omega)).1, (pe2 (k - n) (by omega) (by omega)).2]
        · rw [if_neg z, if_neg z]
      rw [z32_id (x := n + N2 r 29) (by omega) (by omega), z32_id (x := i + 1) (by omega) (by omega)]
      have go : ¬ (n ≤ k ∧ k < n + N2 r 29) → ∀ w7 : xV, Ru (d + 2) kMo_ownAt 6 [xO 9 r, xI (hk T g), xI k, xI w, xI (n + N2 r 29), xI (i + 1), w7] [] N2 Q := fun z w7 => by
        rw [if_neg z] at hu
        exact ih (i + 1) (by omega) (by omega) N2 _ _ (by omega) (by omega) (by omega) (by rw [← hu]; exact hO) hf3
      refine ⟨fun z => go (by omega) _, fun z => ⟨fun z2 => go (by omega) _, fun z2 => ?_⟩⟩
      rw [z32_id (x := k - n) (by omega) (by omega)]
      have h' := h N2 (fun e => absurd e (by omega)) hf3
      rw [← hO, hu, if_pos (by omega)] at h'
      refine ⟨fun z3 => ⟨by omega, ?_⟩, fun z3 => ⟨by omega, ?_⟩⟩
      · rw [if_neg z3] at h'; exact h'
      · rw [if_pos (Classical.not_not.mp z3)] at h'; exact h'
    · have hlt := r1.2.2.1 i i0 (by omega)
      have hhp : ¬ hp T (M (r + 6) i) = g := by rw [← hk_iff hw hg, r1.2.2.2.1 i i0 (by omega) _ (Int.le_refl _) hlt]; exact y2
      rw [z32_id (x := i + 1) (by omega) (by omega)]
      refine ih (i + 1) (by omega) (by omega) N n _ (by omega) n0 (by omega) ?_ hf
      rw [← hO, show (M (r + 5) 0 - i).toNat = (M (r + 5) 0 - (i + 1)).toNat + 1 by omega]
      show _ = (if hp T (M (r + 6) i) = g then _ else _)
      rw [if_neg hhp]
  exact main 0 (by omega) M 0 _ (by decide) (by decide) (by decide) (by rw [Int.sub_zero]) (fun _ _ _ _ _ => rfl)
end Own2
section Asks2
variable {d : Nat} {M : xM} {Q : xQ} {s r : Int} {T : TB} {a : Int} {P : Int → TB} {kp : Int} {S : Int → TB} {tt : Int} {g : Int → Int} {z : Int}
/-- what may change of the class without harm -/
theorem Cls_s {N : xM} (hw : Wf T a P kp S) (h : Cls M s T a P kp S tt g z) (e : ∀ b j : Int, ¬ (s + 10 ≤ b ∧ b ≤ s + 16) → ¬ (s + 27 ≤ b ∧ b ≤ s + 34) → ¬ (s + 111 ≤ b ∧ b ≤ s + 113) → ¬ b = s + 35 + 7 → ¬ (b = s + 35 ∧ j = 17) → N b j = M b j) : Cls N s T a P kp S tt g z := by
  have hx := h.2.2.2.2.2.2
  refine Cls_k hw h (fun b j h1 h2 h3 => e b j h2 (by omega) (by omega) (by omega) (by omega)) (by omega) (KN_fr h.2.2.2.2.1 (e _ _ (by omega) (by omega) (by omega) (by omega) (by omega)) (fun b j b0 b1 b2 b3 b4 b5 => e b j (by omega) (by omega) (by omega) (by omega) (by omega)) (fun j hj => e _ _ (by omega) (by omega) (by omega) (by omega) (by omega))) ⟨⟨?_, ?_, ?_, ?_⟩, fun j j0 j1 => ?_⟩
  · rw [e _ _ (by omega) (by omega) (by omega) (by omega) (by omega)]; exact hx.1.1
  · rw [e _ _ (by omega) (by omega) (by omega) (by omega) (by omega)]; exact hx.1.2.1
  · rw [e _ _ (by omega) (by omega) (by omega) (by omega) (by omega)]; exact hx.1.2.2.1
  · rw [e _ _ (by omega) (by omega) (by omega) (by omega) (by omega)]; exact hx.1.2.2.2
  · rw [e _ _ (by omega) (by omega) (by omega) (by omega) (by omega)]; exact hx.2 j j0 j1
/-! reach -/
def spReach (T : TB) (k x : Int) : Prop := (okH T k → x = cq (fun a => hp T a = k) (4294967296 : Int).toNat) ∧ (¬ okH T k → x = -2)
theorem aRS_reach {k : Int} (hw : Wf T a P kp S) (hC : Cls M s T a P kp S tt g z) (kk : ∀ (N : xM) (x : Int), spReach T k x → Cls N s T a P kp S tt g z → frC M N s → Q (xL x) N) : Ru (d + 100) kRS_reach 0 [xO 8 s, xI k] [] M Q := by
  have go : okH T k → Ru (d + 99) kRS_seeSpans 0 [xO 8 s] [] M (fun r N => Ru (d + 100) kRS_reach 24 [xO 8 s, xI k] [] N Q) := fun hk =>
    qRS_seeSpans hw hC (fun N hN hS _ hf => vRS_reach_24 (qSpans_addressesWith (SP_SR hw.1 hS) (vRS_reach_32 (kk N _ ⟨fun _ => rfl, fun h => absurd hk h⟩ hN (fr_see hf)))))
  refine vRS_reach_0 ⟨fun y => go (Or.inl y), fun y => qTable_hasHop hC.1 (fun k0 k1 k2 => vRS_reach_13 ⟨fun _ => go (Or.inr ⟨⟨k0, k1⟩, k2⟩), fun q => absurd (by decide) q⟩) (fun q => vRS_reach_13 ⟨fun x => absurd rfl x, fun _ => kk M _ ⟨fun h => ?_, fun _ => rfl⟩ hC frC_r⟩)⟩
  rcases h with h | h
  · exact absurd h y
  · exact absurd ⟨h.1.1, h.1.2, h.2⟩ q
theorem aMo_reach {k x : Int} (hw : Wf T a P kp S) (hR : Ref M r T a P kp S tt g z) (h : spReach T k x) (kk : ∀ N : xM, Ref N r T a P kp S tt g z → frR M N r → Q (xL x) N) : Ru (d + 100) kMo_reach 0 [xO 9 r, xI k, xU, xU, xU, xU] [] M Q := by
  have hN := RN_of.mp hR.1
  refine vMo_reach_0 ⟨fun y => vMo_reach_17 ⟨fun q => absurd y q, fun _ => ?_⟩, fun y => qMo_isHop hw.1 hR.1 (fun k0 k1 k2 => vMo_reach_10 ⟨fun _ => vMo_reach_17 ⟨fun _ => ⟨by rw [z32_id (by omega) (by omega)]; omega, ?_⟩, fun q => absurd y q⟩, fun q => absurd (by decide) q⟩) (fun q => vMo_reach_10 ⟨fun x => absurd rfl x, fun _ => qeL (kk M hR frR_r) (h.2 ?_).symm⟩)⟩
  · have ho : okH T k := Or.inl y
    have e : hk T k = -1 := if_pos y
    have := qMo_reachL (d := d + 99) (Q := Q) (e := k) hw.1 hR.2.1.1 ho (qeL (kk M hR frR_r) (h.1 ho).symm)
    rw [e] at this
    exact this
  · have ho : okH T k := Or.inr ⟨⟨k0, k1⟩, k2⟩
    have e : hk T k = tK T k := if_neg y
    have := qMo_reachL (d := d + 99) (Q := Q) (e := k) hw.1 hR.2.1.1 ho (qeL (kk M hR frR_r) (h.1 ho).symm)
    rw [z32_id (by omega) (by omega), hN.2.2.2.1 k k0 (by omega), ← e]
    exact this
  · rintro (c | c)
    · exact absurd c y
    · exact absurd ⟨c.1.1, c.1.2, c.2⟩ q
theorem bo_reach (k : Int) : Bo kRS_reach [xO 8 0, xI k] kMo_reach [xO 9 198, xI k, xU, xU, xU, xU] xL :=
  bo_q (fun σ x => spReach σ.1 k x) (fun _ _ _ _ _ _ _ _ _ _ _ hw hC kk => aRS_reach hw hC kk) (fun _ _ _ _ _ _ _ _ _ _ _ _ hw hR h kk => aMo_reach hw hR h kk)
/-! span -/
def spSpan (T : TB) (k w x : Int) : Prop := ∃ (m : Int) (F K : Int → Int), isRows T m F K ∧ (¬ (0 ≤ k ∧ k < m) → x = -2) ∧ (0 ≤ k → k < m → (w = 0 → x = F k) ∧ (w = 1 → x = nxF F m k - 1) ∧ (w = 2 → x = hp T (F k)) ∧ (¬ (0 ≤ w ∧ w ≤ 2) → x = -2))
theorem aRS_span {k w : Int} (hw : Wf T a P kp S) (hC : Cls M s T a P kp S tt g z) (kk : ∀ (N : xM) (x : Int), spSpan T k w x → Cls N s T a P kp S tt g z → frC M N s → Q (xL x) N) : Ru (d + 100) kRS_span 0 [xO 8 s, xI k, xI w] [] M Q := by
  refine vRS_span_0 (qRS_seeSpans hw hC (fun N hN hS _ hf => vRS_span_4 ?_))
  have hR := SP_SR hw.1 hS
  have hF := fr_see hf
  refine ⟨fun y => kk N _ ⟨_, _, _, hR.1, fun _ => rfl, fun _ _ => by omega⟩ hN hF, fun y => ⟨fun y2 => ?_, fun y2 => kk N _ ⟨_, _, _, hR.1, fun _ => rfl, fun _ _ => by omega⟩ hN hF⟩⟩
  have b := hR.2.1
  have lt := hR.1.2.2.1 k (by omega) y2
  have e1 := hR.2.2.1 k (by omega) y2
  have e2 := hR.2.2.2 k (by omega) y2 (N (s + 19 + 1) k) (Int.le_refl _) lt
  exact ⟨fun q => ⟨by omega, kk N _ ⟨_, _, _, hR.1, fun h => absurd ⟨by omega, y2⟩ h, fun _ _ => ⟨fun _ => rfl, by omega, by omega, by omega⟩⟩ hN hF⟩, fun q0 => ⟨fun q => ⟨by omega, kk N _ ⟨_, _, _, hR.1, fun h => absurd ⟨by omega, y2⟩ h, fun _ _ => ⟨by omega, fun _ => e1, by omega, by omega⟩⟩ hN hF⟩, fun q1 => ⟨fun q => ⟨by omega, kk N _ ⟨_, _, _, hR.1, fun h => absurd ⟨by omega, y2⟩ h, fun _ _ => ⟨by omega, by omega, fun _ => e2.symm, by omega⟩⟩ hN hF⟩, fun q2 => kk N _ ⟨_, _, _, hR.1, fun h => absurd ⟨by omega, y2⟩ h, fun _ _ => ⟨by omega, by omega, by omega, fun _ => rfl⟩⟩ hN hF⟩⟩⟩
theorem nxF_cg {F F2 : Int → Int} {m k : Int} (e : ∀ i : Int, 0 ≤ i → i < m → F i = F2 i) (k0 : 0 ≤ k) : nxF F m k = nxF F2 m k := by
  by_cases c : k + 1 < m
  · rw [nxF_in c, nxF_in c, e _ (by omega) c]
  · rw [nxF_end c, nxF_end c]
theorem e124 : (fun i => M (r + 6) (124 * 0 + i)) = M (r + 6) := funext fun i => by rw [show (124 : Int) * 0 + i = i by omega]
theorem aMo_span {k w x : Int} (hw : Wf T a P kp S) (hR : Ref M r T a P kp S tt g z) (h : spSpan T k w x) (kk : ∀ N : xM, Ref N r T a P kp S tt g z → frR M N r → Q (xL x) N) : Ru (d + 100) kMo_span 0 [xO 9 r, xI k, xI w] [] M Q := by
  have hW := hR.2.1.1
  have hr := RW_0 hW
  have b := hW.2.1
  have m1 := hr.1
  obtain ⟨m, F, K, h1, s0, s1⟩ := h
  obtain ⟨em, e⟩ := isRows_u h1 hr
  refine vMo_span_0 ⟨by decide, ?_⟩
  rw [z32_id (by omega) (by omega)]
  refine qMo_isIn (fun k0 k1 => vMo_span_15 ⟨fun q => absurd q (by decide), fun _ => ?_⟩) (fun y => vMo_span_15 ⟨fun _ => qeL (kk M hR frR_r) (s0 (by omega)).symm, fun q => absurd rfl q⟩)
  obtain ⟨e0, e1, e2, e3⟩ := s1 k0 (by omega)
  have ek := (e k k0 (by omega)).1
  have lt := hr.2.2.1 k k0 (by omega)
  have hK := hr.2.2.2.1 k k0 (by omega) (M (r + 6) k) (Int.le_refl _) lt
  have enx : nxF F m k = nxF (M (r + 6)) (M (r + 5) 0) k := by rw [← em]; exact nxF_cg (fun i i0 i1 => (e i i0 i1).1) k0
  have nb : nxF (M (r + 6)) (M (r + 5) 0) k ≤ 4294967296 ∧ 0 ≤ nxF (M (r + 6)) (M (r + 5) 0) k := by
    have h1 := rows_nx hr k0 (show k < M (r + 5) 0 by omega)
    have h2 := rows_in hr k0 (show k < M (r + 5) 0 by omega)
    omega
  refine qMo_isIn (fun w0 w1 => vMo_span_27 ⟨fun _ => ⟨fun q0 => ⟨fun q1 => ⟨by omega, ?_⟩, fun q1 => ?_⟩, fun q0 => ⟨by omega, qeL (kk M hR frR_r) ?_⟩⟩, fun q => absurd (by decide) q⟩) (fun y => vMo_span_27 ⟨fun q => absurd rfl q, fun _ => qeL (kk M hR frR_r) (e3 y).symm⟩)
  · rw [← hK]
    exact qMo_hopBy hw.1 (RN_of.mp hR.1) (vMo_span_73 (qeL (kk M hR frR_r) (by rw [← ek]; exact (e2 (by omega)).symm)))
  · refine qMo_behindRow hW (Or.inl rfl) k0 (by omega) (vMo_span_58 ?_)
    rw [e124, z64_id (by omega) (by omega)]
    exact qeL (kk M hR frR_r) (by rw [← enx]; exact (e1 (by omega)).symm)
  · rw [← ek]; exact (e0 (by omega)).symm
theorem bo_span (k w : Int) : Bo kRS_span [xO 8 0, xI k, xI w] kMo_span [xO 9 198, xI k, xI w] xL :=
  bo_q (fun σ x => spSpan σ.1 k w x) (fun _ _ _ _ _ _ _ _ _ _ _ hw hC kk => aRS_span hw hC kk) (fun _ _ _ _ _ _ _ _ _ _ _ _ hw hR h kk => aMo_span hw hR h kk)
/-! within -/
theorem pl_lt (hw : tWF T) {v l p i : Int} (h : isPl T v l p) (i0 : 0 ≤ i) (i1 : i < tN T) : i < p ↔ tA T i v l := by
  constructor
  · exact fun q => h.2.2.1 i i0 q
  · intro q
    apply Classical.byContradiction
    intro n
    have hp := h.2.2.2 (by omega)
    have p0 := h.1
    by_cases c : p = i
    · exact hp (by rw [c]; exact q)
    · have := hw.2.2.1 p i p0 (by omega) i1
      unfold tA at hp q
      omega
theorem wi_mem (hw : tWF T) {v l p q i : Int} (l0 : 0 ≤ l) (l1 : l ≤ 32) (hv : v % wd l = 0) (hp : isPl T v l p) (hq : isPl T (v + wd l) 0 q) (i0 : 0 ≤ i) (i1 : i < tN T) : (p ≤ i ∧ i < q) ↔ (l ≤ tL T i ∧ v ≤ tV T i ∧ tV T i < v + wd l) := by
  have h1 := pl_lt hw hp i0 i1
  have h2 := pl_lt hw hq i0 i1
  obtain ⟨⟨v0, v1⟩, ⟨w0, w1⟩, hm, -⟩ := hw.2.1 i i0 i1
  unfold tA at h1 h2
  have key : v < tV T i → tV T i < v + wd l → l ≤ tL T i := by
    intro a1 a2
    apply Classical.byContradiction
    intro n
    have dv := wd_dvd (m := tL T i) (n := l) (by omega)
    have e : tV T i % wd l = 0 := Int.emod_eq_zero_of_dvd (Int.dvd_trans dv (Int.dvd_of_emod_eq_zero hm))
    have e2 : (tV T i - v) % wd l = 0 := by rw [Int.sub_emod, e, hv]; simp
    have := Int.le_of_dvd (by omega) (Int.dvd_of_emod_eq_zero e2)
    omega
  constructor
  · intro y
    have n1 : ¬ (tV T i < v ∨ tV T i = v ∧ tL T i < l) := fun c => by have := h1.mpr c; omega
    have n2 := h2.mp y.2
    have : tV T i < v + wd l := by omega
    refine ⟨?_, by omega, this⟩
    by_cases c : tV T i = v
    · omega
    · exact key (by omega) this
  · intro y
    refine ⟨?_, h2.mpr (by omega)⟩
    apply Classical.byContradiction
    intro n
    have := h1.mp (by omega)
    omega
theorem wi_le (hw : tWF T) {v l p q : Int} (hp : isPl T v l p) (hq : isPl T (v + wd l) 0 q) : p ≤ q := by
  apply Classical.byContradiction
  intro n
  have q0 := hq.1
  have p1 := hp.2.1
  have h1 := hp.2.2.1 q q0 (by omega)
  have h2 := hq.2.2.2 (by omega)
  have := wd_pos l
  unfold tA at h1 h2
  omega
def spWithin (T : TB) (v l k x : Int) : Prop := (¬ (isB v l ∧ -1 ≤ k) → x = -1) ∧ (isB v l → -1 ≤ k → ∃ p q : Int, isPl T (uns v) l p ∧ isPl T (uns v + wd l) 0 q ∧ (k = -1 → x = q - p) ∧ (¬ k = -1 → k < q - p → x = p + k) ∧ (¬ k = -1 → ¬ k < q - p → x = -2))
theorem aRS_within {v l k : Int} (hw : Wf T a P kp S) (hC : Cls M s T a P kp S tt g z) (kk : ∀ (N : xM) (x : Int), spWithin T v l k x → Cls N s T a P kp S tt g z → frC M N s → Q (xI x) N) : Ru (d + 100) kRS_within 0 [xO 8 s, xI v, xI l, xI k, xU, xU, xU, xU] [] M Q := by
  have hn := hw.1.1
  refine vRS_within_0 (qRS_isBeginning (fun hb => vRS_within_5 ⟨fun q => absurd q (by decide), fun _ => ⟨fun k0 => ?_, fun q => kk M _ ⟨fun _ => rfl, fun _ h => absurd h q⟩ hC frC_r⟩⟩) (fun hb => vRS_within_5 ⟨fun _ => kk M _ ⟨fun _ => rfl, fun h => absurd h hb⟩ hC frC_r, fun q => absurd rfl q⟩))
  have un := uns_in v
  have wl := wd_le hb.1
  have wp := wd_pos l
  refine qRS_unsigned (vRS_within_19 (qTable_placeFor hC.1 hw.1 (fun p hp => vRS_within_31 (qRS_widthOf hb.1 hb.2.1 (vRS_within_43 ?_)))))
  rw [z64_id (by omega) (by omega)]
  refine qTable_placeFor hC.1 hw.1 (fun q hq => vRS_within_48 ?_)
  have p0 := hp.1
  have p1 := hp.2.1
  have q0 := hq.1
  have q1 := hq.2.1
  rw [z32_id (x := q - p) (by omega) (by omega)]
  refine ⟨fun y => ⟨fun y2 => kk M _ ⟨fun h => absurd ⟨hb, k0⟩ h, fun _ _ => ⟨p, q, hp, hq, fun h => absurd h y, fun _ h => by omega, fun _ _ => rfl⟩⟩ hC frC_r, fun y2 => ?_⟩, fun y => kk M _ ⟨fun h => absurd ⟨hb, k0⟩ h, fun _ _ => ⟨p, q, hp, hq, fun _ => rfl, fun h => absurd h y, fun h => absurd h y⟩⟩ hC frC_r⟩
  rw [z32_id (by omega) (by omega)]
  exact kk M _ ⟨fun h => absurd ⟨hb, k0⟩ h, fun _ _ => ⟨p, q, hp, hq, fun h => absurd h y, fun _ _ => rfl, fun _ h => by omega⟩⟩ hC frC_r
theorem aMo_within {v l k x : Int} (hw : Wf T a P kp S) (hR : Ref M r T a P kp S tt g z) (h : spWithin T v l k x) (kk : ∀ N : xM, Ref N r T a P kp S tt g z → frR M N r → Q (xI x) N) : Ru (d + 100) kMo_within 0 [xO 9 r, xI v, xI l, xI k, xU, xU] [] M Q := by
  have hn := hw.1.1
  have hc := RN_of.mp hR.1
  refine vMo_within_0 (qMo_isBeginning (fun hb => vMo_within_5 ⟨fun q => absurd q (by decide), fun _ => ⟨fun k0 => ?_, fun q => qe (kk M hR frR_r) (h.1 (fun c => q c.2)).symm⟩⟩) (fun hb => vMo_within_5 ⟨fun _ => qe (kk M hR frR_r) (h.1 (fun c => hb c.1)).symm, fun q => absurd rfl q⟩))
  have un := uns_in v
  have wl := wd_le hb.1
  have wp := wd_pos l
  obtain ⟨p, q, hp, hq, x1, x2, x3⟩ := h.2 hb k0
  have pq := wi_le hw.1 hp hq
  have p0 := hp.1
  have q1 := hq.2.1
  have main : ∀ i : Int, i ≤ tN T → ∀ n : Int, 0 ≤ i → ((i ≤ p ∧ n = 0) ∨ (p < i ∧ i ≤ q ∧ n = i - p) ∨ (q < i ∧ n = q - p)) → (k = -1 ∨ n ≤ k) → Ru (d + 100) kMo_within 21 [xO 9 r, xI v, xI l, xI k, xI n, xI i] [] M Q := by
    refine loop_up (tN T) (fun i hi ih n i0 hI hk => ?_)
    refine vMo_within_21 ⟨by decide, ?_⟩
    rw [hc.1]
    refine ⟨fun y => ⟨fun y2 => qe (kk M hR frR_r) (x3 y2 (by omega)).symm, fun y2 => qe (kk M hR frR_r) ?_⟩, fun y => ?_⟩
    · rw [x1 (Classical.not_not.mp y2)]; omega
    have hr := hc.2.2.1 i i0 (by omega)
    have hm := wi_mem hw.1 hb.1 hb.2.1 hb.2.2 hp hq i0 (by omega)
    rw [z32_id (x := 62 + i) (by omega) (by omega), hr.2.1, z32_id (x := i + 1) (by omega) (by omega)]
    refine ⟨by omega, fun y2 => ih (i + 1) (by omega) (by omega) n (by omega) ?_ hk, fun y2 => ?_⟩
    · have : ¬ (p ≤ i ∧ i < q) := fun c => by have := hm.mp c; omega
      omega
    refine qMo_valueOf hR.1 hw.1 i0 (by omega) (vMo_within_52 (qMo_unsigned (vMo_within_56 (qMo_unsigned (vMo_within_60 (qMo_sizeOf hb.1 hb.2.1 (vMo_within_64 ?_)))))))
    rw [z64_id (x := uns v + wd l) (by omega) (by omega), z64_id (by omega) (by omega)]
    refine qMo_isIn (fun b0 b1 => vMo_within_70 ⟨fun _ => ?_, fun c => absurd (by decide) c⟩) (fun b => vMo_within_70 ⟨fun c => absurd rfl c, fun _ => ?_⟩)
    · have hmm := hm.mpr ⟨by omega, b0, by omega⟩
      rw [z32_id (x := n + 1) (by omega) (by omega), z32_id (x := i + 1) (by omega) (by omega)]
      refine ⟨fun y3 => ih (i + 1) (by omega) (by omega) (n + 1) (by omega) (by omega) (by omega), fun y3 => ?_⟩
      refine qe (kk M hR frR_r) ?_
      rw [x2 (by omega) (by omega)]
      omega
    · rw [z32_id (x := i + 1) (by omega) (by omega)]
      refine ih (i + 1) (by omega) (by omega) n (by omega) ?_ hk
      have : ¬ (p ≤ i ∧ i < q) := fun c => b (by have := hm.mp c; omega)
      omega
  exact main 0 (by omega) 0 (by omega) (by omega) (by omega)
theorem bo_within (v l k : Int) : Bo kRS_within [xO 8 0, xI v, xI l, xI k, xU, xU, xU, xU] kMo_within [xO 9 198, xI v, xI l, xI k, xU, xU] xI :=
  bo_q (fun σ x => spWithin σ.1 v l k x) (fun _ _ _ _ _ _ _ _ _ _ _ hw hC kk => aRS_within hw hC kk) (fun _ _ _ _ _ _ _ _ _ _ _ _ hw hR h kk => aMo_within hw hR h kk)
end Asks2

/-! CALLS THAT ASK: alike, level, steps, count. -/
section Asks6
variable {d : Nat} {M : xM} {Q : xQ} {s r : Int} {T : TB} {a : Int} {P : Int → TB} {kp : Int} {S : Int → TB} {tt : Int} {g : Int → Int} {z : Int}
theorem Ref_kind {N : xM} (h : Ref M r T a P kp S tt g z) (h19 : N r 19 = 1) (hk : isKind T (M (r + 15)) (M (r + 14)) (N (r + 26))) (e : ∀ b j : Int, ¬ (b = r ∧ j = 19) → ¬ b = r + 26 → ¬ b = r + 27 → N b j = M b j) : Ref N r T a P kp S tt g z := by
  obtain ⟨h1, h2, h3, h4, h5, h6, h7⟩ := h
  have e14 : N (r + 14) = M (r + 14) := funext fun j => e _ _ (by omega) (by omega) (by omega)
  have e15 : N (r + 15) = M (r + 15) := funext fun j => e _ _ (by omega) (by omega) (by omega)
  exact ⟨RT_fr h1 (fun j => e _ _ (by omega) (by omega) (by omega)), RL_fr h2 (fun b j b0 b1 => e b j (by omega) (by omega) (by omega)) (e _ _ (by omega) (by omega) (by omega)), Or.inr ⟨h19, by rw [e14, e15]; exact hk⟩, ⟨by rw [e _ _ (by omega) (by omega) (by omega)]; exact h4.1, fun i i0 i1 => RT_fr (h4.2 i i0 i1) (fun j => e _ _ (by omega) (by omega) (by omega))⟩, fun i i0 i1 => ⟨by rw [e _ _ (by omega) (by omega) (by omega)]; exact (h5 i i0 i1).1, fun q => RT_fr ((h5 i i0 i1).2 q) (fun j => e _ _ (by omega) (by omega) (by omega))⟩, by rw [e _ _ (by omega) (by omega) (by omega)]; exact h6, RG_fr h7 (e _ _ (by omega) (by omega) (by omega)) (fun j => e _ _ (by omega) (by omega) (by omega))⟩
/-! alike -/
def spAlike (T : TB) (n o x : Int) : Prop := ∃ (m : Int) (lf vl lv : Int → Int), isNum T m lf vl lv ∧ (¬ ((0 ≤ n ∧ n < m) ∧ (0 ≤ o ∧ o < m) ∧ lv n = lv o) → x = -1) ∧ ((0 ≤ n ∧ n < m) → (0 ≤ o ∧ o < m) → lv n = lv o → ∃ K : Int → Int, isKind T lf vl K ∧ ((K n = K o ∧ x = 1) ∨ (¬ K n = K o ∧ x = 0)))
theorem aRS_alike {n o : Int} (hw : Wf T a P kp S) (hC : Cls M s T a P kp S tt g z) (kk : ∀ (N : xM) (x : Int), spAlike T n o x → Cls N s T a P kp S tt g z → frC M N s → Q (xI x) N) : Ru (d + 100) kRS_alike 0 [xO 8 s, xI n, xI o] [] M Q := by
  refine vRS_alike_0 (qRS_seeNodes hw hC (fun N hN hT _ hf => vRS_alike_4 ?_))
  have hF := fr_seeN hf
  have hnum := NT_num hT
  have h9 := hT.2.1.2.2.2.1
  have no : ¬ ((0 ≤ n ∧ n < N (s + 35) 0) ∧ (0 ≤ o ∧ o < N (s + 35) 0) ∧ N (s + 35 + 2) n = N (s + 35 + 2) o) → Q (xI (-1)) N := fun y => kk N _ ⟨_, _, _, _, hnum, fun _ => rfl, fun h1 h2 h3 => absurd ⟨h1, h2, h3⟩ y⟩ hN hF
  refine qNodes_has h9 (fun n0 n1 => vRS_alike_12 ⟨fun q => absurd q (by decide), fun _ => ?_⟩) (fun y => vRS_alike_12 ⟨fun _ => no (fun c => y c.1), fun q => absurd rfl q⟩)
  refine qNodes_has h9 (fun o0 o1 => vRS_alike_23 ⟨fun q => absurd q (by decide), fun _ => ⟨by omega, by omega, fun y => ?_, fun y => no (fun c => y c.2.2)⟩⟩) (fun y => vRS_alike_23 ⟨fun _ => no (fun c => y c.2.1), fun q => absurd rfl q⟩)
  refine qRS_seeKinds hw hN (fun N2 hN2 hT2 hK2 hf2 => vRS_alike_53 ⟨by omega, by omega, ?_⟩)
  have hF2 : frC M N2 s := frC_t hF (fr_seeK hf2)
  have hnum2 := NT_num hT2
  obtain ⟨es, el, ev⟩ := num_u hw.1 hnum hnum2
  have yy : N2 (s + 35 + 2) n = N2 (s + 35 + 2) o := by rw [← (ev n n0 n1).2, ← (ev o o0 o1).2]; exact y
  have b2 : (0 ≤ n ∧ n < N2 (s + 35) 0) ∧ (0 ≤ o ∧ o < N2 (s + 35) 0) ∧ N2 (s + 35 + 2) n = N2 (s + 35 + 2) o := ⟨⟨n0, by omega⟩, ⟨o0, by omega⟩, yy⟩
  exact ⟨fun q => kk N2 _ ⟨_, _, _, _, hnum2, fun h => absurd b2 h, fun _ _ _ => ⟨_, hK2, Or.inr ⟨q, rfl⟩⟩⟩ hN2 hF2, fun q => kk N2 _ ⟨_, _, _, _, hnum2, fun h => absurd b2 h, fun _ _ _ => ⟨_, hK2, Or.inl ⟨Classical.not_not.mp q, rfl⟩⟩⟩ hN2 hF2⟩
theorem aMo_alike {n o x : Int} (hw : Wf T a P kp S) (hR : Ref M r T a P kp S tt g z) (h : spAlike T n o x) (kk : ∀ N : xM, Ref N r T a P kp S tt g z → frR M N r → Q (xI x) N) : Ru (d + 100) kMo_alike 0 [xO 9 r, xI n, xI o] [] M Q := by
  have hq := kk M hR frR_r
  obtain ⟨m, lf, vl, lv, hnum, e0, e1⟩ := h
  have hnR := RL_num hw.1 hR.2.1
  obtain ⟨es, el, ev⟩ := num_u hw.1 hnum hnR
  have rb := RL_b hw.1 hR.2.1
  refine vMo_alike_0 (qMo_isNode ⟨by omega, by omega⟩ (fun n0 n1 => vMo_alike_5 ⟨fun q => absurd q (by decide), fun _ => ?_⟩) (fun y => vMo_alike_5 ⟨fun _ => qe hq (e0 (fun c => y (by omega))).symm, fun q => absurd rfl q⟩))
  refine qMo_isNode ⟨by omega, by omega⟩ (fun o0 o1 => vMo_alike_13 ⟨fun q => absurd q (by decide), fun _ => ⟨by omega, by omega, fun y => ?_, fun y => qe hq (e0 (fun c => y ?_)).symm⟩⟩) (fun y => vMo_alike_13 ⟨fun _ => qe hq (e0 (fun c => y (by omega))).symm, fun q => absurd rfl q⟩)
  · refine qMo_laysClasses hw.1 hR.2.1 hR.2.2.1 (fun N h19 hk hf => vMo_alike_37 ⟨by omega, by omega, ?_⟩)
    have hR2 := Ref_kind hR h19 hk hf
    have hq2 := kk N hR2 (fun b j h => hf b j (by omega) (by omega) (by omega))
    obtain ⟨K, hK, hx⟩ := e1 ⟨n0, by omega⟩ ⟨o0, by omega⟩ (by rw [(ev n n0 (by omega)).2, (ev o o0 (by omega)).2]; exact y)
    have ku := kind_u hw.1 hnum hnR hK hk
    rw [← ku n n0 (by omega), ← ku o o0 (by omega)]
    refine ⟨fun q => qe hq2 ?_, fun q => qe hq2 ?_⟩
    · rcases hx with c | c
      · exact absurd c.1 q
      · exact c.2.symm
    · rcases hx with c | c
      · exact c.2.symm
      · exact absurd (Classical.not_not.mp q) c.1
  · rw [← (ev n n0 (by omega)).2, ← (ev o o0 (by omega)).2]; exact c.2.2
theorem bo_alike (n o : Int) : Bo kRS_alike [xO 8 0, xI n, xI o] kMo_alike [xO 9 198, xI n, xI o] xI :=
  bo_q (fun σ x => spAlike σ.1 n o x) (fun _ _ _ _ _ _ _ _ _ _ _ hw hC kk => aRS_alike hw hC kk) (fun _ _ _ _ _ _ _ _ _ _ _ _ hw hR h kk => aMo_alike hw hR h kk)
/-! level -/
def spLevel (T : TB) (l w x : Int) : Prop := (¬ (0 ≤ l ∧ l < tZ T) → x = -1) ∧ (0 ≤ l → l < tZ T → (w = 0 → x = tS T l) ∧ (w = 1 → ∃ (m : Int) (lf vl lv : Int → Int), isNum T m lf vl lv ∧ x = lf (l + 1) - lf l) ∧ (w = 2 → ∃ (m : Int) (lf vl lv : Int → Int), isNum T m lf vl lv ∧ x = sM T vl lv (lf (l + 1)).toNat - sM T vl lv (lf l).toNat) ∧ (w = 3 → ∃ (m : Int) (lf vl lv K : Int → Int), isNum T m lf vl lv ∧ isKind T lf vl K ∧ x = cq (fun n => K n = n) (lf (l + 1)).toNat - cq (fun n => K n = n) (lf l).toNat) ∧ (¬ (0 ≤ w ∧ w ≤ 3) → x = -1))
theorem aRS_level {l w : Int} (hw : Wf T a P kp S) (hC : Cls M s T a P kp S tt g z) (kk : ∀ (N : xM) (x : Int), spLevel T l w x → Cls N s T a P kp S tt g z → frC M N s → Q (xI x) N) : Ru (d + 100) kRS_level 0 [xO 8 s, xI l, xI w] [] M Q := by
  have hZ := hw.1.2.2.2.2.2.1
  refine vRS_level_0 ?_
  rw [hC.1.2.2.2.1]
  refine ⟨fun y => kk M _ ⟨fun _ => rfl, fun h1 h2 => by omega⟩ hC frC_r, fun y => ⟨fun y2 => ?_, fun y2 => kk M _ ⟨fun _ => rfl, fun h1 h2 => by omega⟩ hC frC_r⟩⟩
  have l0 : 0 ≤ l := by omega
  refine qRS_seeNodes hw hC (fun N hN hT _ hf => vRS_level_21 ?_)
  have hF := fr_seeN hf
  have hnum := NT_num hT
  have h9 := hT.2.1.2.2.2.1
  have m0 := num_mono hnum (i := 0) (j := l) (by decide) l0 (by omega)
  have m1 := num_mono hnum (i := l) (j := l + 1) l0 (by omega) (by omega)
  have m2 := num_mono hnum (i := l + 1) (j := tZ T) (by omega) (by omega) (Int.le_refl _)
  have hn1 := hnum.1
  have nn : ∀ x : Int, ¬ (0 ≤ l ∧ l < tZ T) → x = -1 := fun x h => absurd ⟨l0, y2⟩ h
  rw [hN.1.2.2.2.2 l l0 y2]
  refine ⟨fun q => ⟨by omega, kk N _ ⟨nn _, fun _ _ => ⟨fun _ => rfl, fun h => by omega, fun h => by omega, fun h => by omega, by omega⟩⟩ hN hF⟩, fun q0 => ⟨fun q => ?_, fun q1 => ⟨fun q => ?_, fun q2 => ⟨fun q => ?_, fun q3 => kk N _ ⟨nn _, fun _ _ => ⟨by omega, fun h => by omega, fun h => by omega, fun h => by omega, fun _ => rfl⟩⟩ hN hF⟩⟩⟩⟩
  · refine qNodes_behindLevel hw.1 hT l0 y2 (vRS_level_70 (qNodes_startOfLevel hw.1 hT l0 (by omega) (vRS_level_78 ?_)))
    rw [z32_id (by omega) (by omega)]
    exact kk N _ ⟨nn _, fun _ _ => ⟨by omega, fun _ => ⟨_, _, _, _, hnum, rfl⟩, fun h => by omega, fun h => by omega, by omega⟩⟩ hN hF
  · exact qNodes_startOfLevel hw.1 hT l0 (by omega) (vRS_level_92 (qNodes_behindLevel hw.1 hT l0 y2 (vRS_level_100 (qNodes_storedIn hw.1 hT (by omega) m1 (by omega) (vRS_level_103 (kk N _ ⟨nn _, fun _ _ => ⟨by omega, fun h => by omega, fun _ => ⟨_, _, _, _, hnum, rfl⟩, fun h => by omega, by omega⟩⟩ hN hF))))))
  · refine qRS_seeKinds hw hN (fun N2 hN2 hT2 hK2 hf2 => vRS_level_108 ?_)
    have hnum2 := NT_num hT2
    have g9 := hT2.2.1.2.2.2.1
    have g0 := num_mono hnum2 (i := 0) (j := l) (by decide) l0 (by omega)
    have g1 := num_mono hnum2 (i := l) (j := l + 1) l0 (by omega) (by omega)
    have g2 := num_mono hnum2 (i := l + 1) (j := tZ T) (by omega) (by omega) (Int.le_refl _)
    have gn1 := hnum2.1
    exact qNodes_startOfLevel hw.1 hT2 l0 (by omega) (vRS_level_120 (qNodes_behindLevel hw.1 hT2 l0 y2 (vRS_level_128 (qKinds_unlikeIn (by omega) g1 (by omega) (vRS_level_131 (kk N2 _ ⟨nn _, fun _ _ => ⟨by omega, fun h => by omega, fun h => by omega, fun _ => ⟨_, _, _, _, _, hnum2, hK2, rfl⟩, by omega⟩⟩ hN2 (frC_t hF (fr_seeK hf2))))))))
theorem qMo_level2 {l m : Int} {lf vl lv : Int → Int} (hw : Wf T a P kp S) (hR : Ref M r T a P kp S tt g z) (hnum : isNum T m lf vl lv) (l0 : 0 ≤ l) (l1 : l < tZ T) (kk : ∀ N : xM, Ref N r T a P kp S tt g z → frR M N r → Q (xI (sM T vl lv (lf (l + 1)).toNat - sM T vl lv (lf l).toNat)) N) : Ru (d + 10) kMo_level 0 [xO 9 r, xI l, xI 2] [] M Q := by
  have hZ := hw.1.2.2.2.2.2.1
  have hW := hR.2.1.1
  have hnR := RL_num hw.1 hR.2.1
  obtain ⟨es, el, ev⟩ := num_u hw.1 hnum hnR
  have g0 := num_mono hnum (i := 0) (j := l) (by decide) l0 (by omega)
  have g1 := num_mono hnum (i := l) (j := l + 1) l0 (by omega) (by omega)
  have g2 := num_mono hnum (i := l + 1) (j := tZ T) (by omega) (by omega) (Int.le_refl _)
  have gn1 := hnum.1
  refine vMo_level_0 ⟨by decide, ?_⟩
  rw [hW.2.2.1, z32_id (by omega) (by omega)]
  refine qMo_isIn (fun _ _ => vMo_level_15 ⟨fun _ => ⟨fun q => absurd q (by decide), fun _ => ⟨fun q => absurd q (by decide), fun _ => ⟨fun _ => ?_, fun q => absurd rfl q⟩⟩⟩, fun q => absurd (by decide) q⟩) (fun y => absurd ⟨l0, by omega⟩ y)
  refine qMo_storedAt hw.1 hR.2.1 l0 l1 (fun N hf => vMo_level_84 (qe (kk N (Ref_fr hw.1 hR (fun b j h => by unfold rOk at h; exact hf b j (by omega) (by omega))) (fun b j h => hf b j (by omega) (by omega))) ?_))
  rw [← el l l0 (by omega), ← el (l + 1) (by omega) (by omega), sM_cg (T := T) (vl := vl) (lv := lv) (vl2 := M (r + 14)) (lv2 := M (r + 13)) (lf (l + 1)).toNat (fun k k0 k1 => ev k k0 (by omega)), sM_cg (T := T) (vl := vl) (lv := lv) (vl2 := M (r + 14)) (lv2 := M (r + 13)) (lf l).toNat (fun k k0 k1 => ev k k0 (by omega))]
theorem qMo_level3 {l m : Int} {lf vl lv K : Int → Int} (hw : Wf T a P kp S) (hR : Ref M r T a P kp S tt g z) (hnum : isNum T m lf vl lv) (hK : isKind T lf vl K) (l0 : 0 ≤ l) (l1 : l < tZ T) (kk : ∀ N : xM, Ref N r T a P kp S tt g z → frR M N r → Q (xI (cq (fun n => K n = n) (lf (l + 1)).toNat - cq (fun n => K n = n) (lf l).toNat)) N) : Ru (d + 10) kMo_level 0 [xO 9 r, xI l, xI 3] [] M Q := by
  have hZ := hw.1.2.2.2.2.2.1
  have hW := hR.2.1.1
  have hnR := RL_num hw.1 hR.2.1
  obtain ⟨es, el, ev⟩ := num_u hw.1 hnum hnR
  have g0 := num_mono hnum (i := 0) (j := l) (by decide) l0 (by omega)
  have g1 := num_mono hnum (i := l) (j := l + 1) l0 (by omega) (by omega)
  have g2 := num_mono hnum (i := l + 1) (j := tZ T) (by omega) (by omega) (Int.le_refl _)
  have gn1 := hnum.1
  refine vMo_level_0 ⟨by decide, ?_⟩
  rw [hW.2.2.1, z32_id (by omega) (by omega)]
  refine qMo_isIn (fun _ _ => vMo_level_15 ⟨fun _ => ⟨fun q => absurd q (by decide), fun _ => ⟨fun q => absurd q (by decide), fun _ => ⟨fun q => absurd q (by decide), fun _ => ⟨fun _ => ?_, fun q => absurd rfl q⟩⟩⟩⟩, fun q => absurd (by decide) q⟩) (fun y => absurd ⟨l0, by omega⟩ y)
  refine qMo_unlikeAt hw.1 hR.2.1 hR.2.2.1 l0 l1 (fun N h19 hk hf => vMo_level_90 (qe (kk N (Ref_kind hR h19 hk hf) (fun b j h => hf b j (by omega) (by omega) (by omega))) ?_))
  have ku := kind_u hw.1 hnum hnR hK hk
  rw [← el l l0 (by omega), ← el (l + 1) (by omega) (by omega), cq_cg (P := fun n => K n = n) (P2 := fun n => N (r + 26) n = n) (lf (l + 1)).toNat (fun k k0 k1 => by show K k = k ↔ N (r + 26) k = k; rw [ku k k0 (by omega)]), cq_cg (P := fun n => K n = n) (P2 := fun n => N (r + 26) n = n) (lf l).toNat (fun k k0 k1 => by show K k = k ↔ N (r + 26) k = k; rw [ku k k0 (by omega)])]
theorem aMo_level {l w x : Int} (hw : Wf T a P kp S) (hR : Ref M r T a P kp S tt g z) (h : spLevel T l w x) (kk : ∀ N : xM, Ref N r T a P kp S tt g z → frR M N r → Q (xI x) N) : Ru (d + 100) kMo_level 0 [xO 9 r, xI l, xI w] [] M Q := by
  have hZ := hw.1.2.2.2.2.2.1
  have hW := hR.2.1.1
  have hq := kk M hR frR_r
  have rb := RL_b hw.1 hR.2.1
  by_cases c : 0 ≤ l ∧ l < tZ T
  · obtain ⟨l0, l1⟩ := c
    obtain ⟨f0, f1, f2, f3, f4⟩ := h.2 l0 l1
    by_cases w2 : w = 2
    · subst w2
      obtain ⟨m, lf, vl, lv, hnum, hx⟩ := f2 rfl
      exact qMo_level2 (d := d + 90) hw hR hnum l0 l1 (fun N hN hF => qe (kk N hN hF) hx.symm)
    by_cases w3 : w = 3
    · subst w3
      obtain ⟨m, lf, vl, lv, K, hnum, hK, hx⟩ := f3 rfl
      exact qMo_level3 (d := d + 90) hw hR hnum hK l0 l1 (fun N hN hF => qe (kk N hN hF) hx.symm)
    have hnR := RL_num hw.1 hR.2.1
    have m0 := num_mono hnR (i := 0) (j := l) (by decide) l0 (by omega)
    have m1 := num_mono hnR (i := l) (j := l + 1) l0 (by omega) (by omega)
    have m2 := num_mono hnR (i := l + 1) (j := tZ T) (by omega) (by omega) (Int.le_refl _)
    have hn1 := hnR.1
    refine vMo_level_0 ⟨by decide, ?_⟩
    rw [hW.2.2.1, z32_id (by omega) (by omega)]
    refine qMo_isIn (fun _ _ => vMo_level_15 ⟨fun _ => ?_, fun q => absurd (by decide) q⟩) (fun y => absurd ⟨l0, by omega⟩ y)
    rw [z32_id (x := 243 + l) (by omega) (by omega), (RN_of.mp hR.1).2.2.2.2 l l0 l1, z32_id (x := l + 1) (by omega) (by omega), z32_id (by omega) (by omega)]
    refine ⟨fun q => ⟨by omega, qe hq (f0 q).symm⟩, fun q0 => ⟨fun q => ⟨by omega, by omega, qe hq ?_⟩, fun q1 => ⟨fun q => absurd q w2, fun _ => ⟨fun q => absurd q w3, fun _ => qe hq (f4 (by omega)).symm⟩⟩⟩⟩
    obtain ⟨m, lf, vl, lv, hnum, hx⟩ := f1 q
    obtain ⟨es, el, ev⟩ := num_u hw.1 hnum hnR
    rw [hx, el l l0 (by omega), el (l + 1) (by omega) (by omega)]
  · refine vMo_level_0 ⟨by decide, ?_⟩
    rw [hW.2.2.1, z32_id (by omega) (by omega)]
    exact qMo_isIn (fun h1 h2 => absurd ⟨h1, by omega⟩ c) (fun y => vMo_level_15 ⟨fun q => absurd rfl q, fun _ => qe hq (h.1 c).symm⟩)
theorem bo_level (l w : Int) : Bo kRS_level [xO 8 0, xI l, xI w] kMo_level [xO 9 198, xI l, xI w] xI :=
  bo_q (fun σ x => spLevel σ.1 l w x) (fun _ _ _ _ _ _ _ _ _ _ _ hw hC kk => aRS_level hw hC kk) (fun _ _ _ _ _ _ _ _ _ _ _ _ hw hR h kk => aMo_level hw hR h kk)
end Asks6

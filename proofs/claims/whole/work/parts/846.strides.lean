/-! ACTS: strides, gather. -/
section Strides
variable {d : Nat} {M N : xM} {Q : xQ} {s r : Int} {T T2 : TB} {a a2 : Int} {P : Int → TB} {kp : Int} {S : Int → TB} {tt : Int} {g g2 : Int → Int} {z z2 : Int}
def sameS (T : TB) (k : Int) (F : Int → Int) : Prop := tZ T = k ∧ ∀ j : Int, 0 ≤ j → j < k → tS T j = F j
def spStR (T : TB) (n x : Int) : Prop := ((∀ k F, ¬ isDs n k F) ∧ x = -1) ∨ ∃ (k : Int) (F : Int → Int), isDs n k F ∧ sameS T k F ∧ x = -2
def spStA (T : TB) (n x : Int) (T2 : TB) : Prop := ∃ (k : Int) (F : Int → Int), isDs n k F ∧ ¬ sameS T k F ∧ x = k ∧ T2 = wS T k F
theorem CT_wS {t k : Int} {F : Int → Int} (h : CT M t T) (e : ∀ b j : Int, t ≤ b → b ≤ t + 5 → ¬ (b = t ∧ j = 6) → N b j = M b j) (e6 : N t 6 = k) (eF : ∀ j : Int, 0 ≤ j → j < k → N (t + 6) j = F j) : CT N t (wS T k F) := by
  obtain ⟨h1, h2, h3, h4, h5⟩ := h
  exact ⟨by rw [e _ _ (by omega) (by omega) (by omega)]; exact h1, fun q q0 q1 => ⟨by rw [e _ _ (by omega) (by omega) (by omega)]; exact (h2 q q0 q1).1, by rw [e _ _ (by omega) (by omega) (by omega)]; exact (h2 q q0 q1).2.1, fun c => by rw [e _ _ (by omega) (by omega) (by omega)]; exact (h2 q q0 q1).2.2 c⟩, fun q q0 q1 => ⟨by rw [e _ _ (by omega) (by omega) (by omega)]; exact (h3 q q0 q1).1, fun c => by rw [e _ _ (by omega) (by omega) (by omega)]; exact (h3 q q0 q1).2 c⟩, e6, eF⟩
theorem aRS_strides {n : Int} (n1 : n < 9223372036854775808) (hw : Wf T a P kp S) (hC : Cls M s T a P kp S tt g z) (kk : ∀ (N : xM) (x : Int), spStR T n x → Cls N s T a P kp S tt g z → frC M N s → Q (xI x) N) (ka : ∀ (N : xM) (x : Int) (T2 : TB), spStA T n x T2 → tWF T2 → (∀ t2 : Int, 0 ≤ t2 → isTd T2 T t2 → Cls N s T2 (pA a) (pP a P T) kp S t2 g z) → frC M N s → Q (xI x) N) : Ru (d + 100) kRS_strides 0 [xO 8 s, xL n, xU] [] M Q := by
  have hZ := hw.1.2.2.2.2.2.1
  refine vRS_strides_0 (qTable_takeStrides n1 (fun N k F hD ek eF hf => vRS_strides_8 ⟨fun _ => ?_, fun q => absurd (by decide) q⟩) (fun N hno hf => vRS_strides_8 ⟨fun q => absurd rfl q, fun _ => kk N _ (Or.inl ⟨hno, rfl⟩) (Cls_s hw hC (fun b j h1 h2 h3 h4 h5 => hf b j (by omega) (by omega))) (fun b j h => hf b j (by omega) (by omega))⟩))
  have hk := hD.1.1
  have hN : Cls N s T a P kp S tt g z := Cls_s hw hC (fun b j h1 h2 h3 h4 h5 => hf b j (by omega) (by omega))
  have hF : frC M N s := fun b j h => hf b j (by omega) (by omega)
  refine qTable_hasStridesOf hN.1 hZ ek eF (fun y => vRS_strides_24 ⟨fun q => absurd q (by decide), fun _ => kk N _ (Or.inr ⟨k, F, hD, y, rfl⟩) hN hF⟩) (fun y => vRS_strides_24 ⟨fun _ => ?_, fun q => absurd rfl q⟩)
  refine qRS_beginAct hw hN (fun N2 hA hT hf2 => vRS_strides_34 (qTable_copyStrides (by omega) (fun N3 e6 e7 hf3 => vRS_strides_45 ?_)))
  have g6 : N3 (s + 3) 6 = k := by rw [e6, hf2 _ _ (by omega) (by omega) (by omega)]; exact ek
  have hc3 : CT N3 (s + 3) (wS T k F) := CT_wS hT (fun b j b0 b1 b2 => hf3 b j (by omega) (by omega)) g6 (fun j j0 j1 => by rw [e7 j j0 (by omega), hf2 _ _ (by omega) (by omega) (by omega)]; exact eF j j0 j1)
  have hA3 : ActC N3 s T a P kp S g z := ActC_fr hw hA (fun b j q1 q2 => hf3 b j (by omega) (by omega))
  rw [g6]
  exact ka N3 _ (wS T k F) ⟨k, F, hD, y, rfl, rfl⟩ (wS_wf hw.1 hD.1) (fun t2 t0 ht => ActC_done hw hA3 hc3 t0 ht) (fun b j h => by rw [hf3 b j (by omega) (by omega), hf2 b j (by omega) (by omega) (by omega)]; exact hF b j h)
theorem Ds_pos {n k : Int} {F : Int → Int} (h : isDs n k F) : 0 < n := by
  apply Classical.byContradiction
  intro c
  have h1 := h.2.2.1
  have hn := dq_pow n (k - 1).toNat
  have : n / 10 ^ (k - 1).toNat ≤ 0 := Int.le_trans (Int.ediv_le_ediv (Int.pow_pos (by decide)) (show n ≤ 0 by omega)) (by simp)
  omega
theorem aMo_stR {n x : Int} (n1 : n < 9223372036854775808) (hw : Wf T a P kp S) (hR : Ref M r T a P kp S tt g z) (h : spStR T n x) (kk : ∀ N : xM, Ref N r T a P kp S tt g z → frR M N r → Q (xI x) N) : Ru (d + 100) kMo_strides 0 [xO 9 r, xL n, xU] [] M Q := by
  have hq := kk M hR frR_r
  have hZ := hw.1.2.2.2.2.2.1
  have hq2 : ∀ N : xM, (∀ b j : Int, ¬ (b = r ∧ j = 32) → ¬ b = r + 21 → N b j = M b j) → Ref N r T a P kp S tt g z ∧ Q (xI x) N := fun N hf => by
    have hR2 : Ref N r T a P kp S tt g z := Ref_fr hw.1 hR (fun b j h => by unfold rOk at h; exact hf b j (by omega) (by omega))
    exact ⟨hR2, kk N hR2 (fun b j h => hf b j (by omega) (by omega))⟩
  rcases h with ⟨hno, hx⟩ | ⟨k, F, hD, hs, hx⟩
  · refine vMo_strides_0 ⟨fun _ => qe hq hx.symm, fun y => qMo_readsDigits (by omega) n1 (fun N k F hD _ _ _ => absurd hD (hno k F)) (fun N _ hf => vMo_strides_11 ⟨fun q => absurd rfl q, fun _ => qe (hq2 N hf).2 hx.symm⟩)⟩
  · have hp := Ds_pos hD
    refine vMo_strides_0 ⟨fun y => by omega, fun y => qMo_readsDigits hp n1 (fun N k2 F2 hD2 ek eF hf => vMo_strides_11 ⟨fun _ => ?_, fun q => absurd (by decide) q⟩) (fun N hno _ => absurd hD (hno k F))⟩
    obtain ⟨e1, e2⟩ := isDs_u hD hD2
    have hk := hD2.1.1
    refine qMo_areStrides (hq2 N hf).1.1 hZ ek hk.1 hk.2 eF (fun _ => vMo_strides_20 ⟨fun q => absurd q (by decide), fun _ => qe (hq2 N hf).2 hx.symm⟩) (fun n => absurd ⟨by rw [hs.1, e1], fun j j0 j1 => by rw [hs.2 j j0 (by omega)]; exact e2 j j0 (by omega)⟩ n)
theorem aMo_stA {n x : Int} (n1 : n < 9223372036854775808) (hw : Wf T a P kp S) (hw2 : tWF T2) (hR : Ref M r T a P kp S tt g z) (h : spStA T n x T2) (kk : ∀ (N : xM) (t2 : Int), 0 ≤ t2 → isTd T2 T t2 → Ref N r T2 (pA a) (pP a P T) kp S t2 g z → frR M N r → Q (xI x) N) : Ru (d + 100) kMo_strides 0 [xO 9 r, xL n, xU] [] M Q := by
  have hZ := hw.1.2.2.2.2.2.1
  have hn := hw.1.1
  obtain ⟨k, F, hD, hs, hx, e2⟩ := h
  have hp := Ds_pos hD
  refine vMo_strides_0 ⟨fun y => by omega, fun y => qMo_readsDigits hp n1 (fun N k2 F2 hD2 ek eF hf => vMo_strides_11 ⟨fun _ => ?_, fun q => absurd (by decide) q⟩) (fun N hno _ => absurd hD (hno k F))⟩
  obtain ⟨e1, e3⟩ := isDs_u hD hD2
  subst e1
  have hk := hD2.1.1
  have hR2 : Ref N r T a P kp S tt g z := Ref_fr hw.1 hR (fun b j h => by unfold rOk at h; exact hf b j (by omega) (by omega))
  have eF' : ∀ j : Int, 0 ≤ j → j < k → N (r + 21) j = F j := fun j j0 j1 => by rw [eF j j0 j1]; exact (e3 j j0 j1).symm
  have rb := RL_b hw.1 hR2.2.1
  have hnum := RL_num hw.1 hR2.2.1
  refine qMo_areStrides hR2.1 hZ ek hk.1 hk.2 eF' (fun c => absurd c hs) (fun _ => vMo_strides_20 ⟨fun _ => ?_, fun q => absurd rfl q⟩)
  refine qMo_keepsAct hw hR2.1 hR2.2.2.2.1.1 hR2.2.2.2.1.2 (fun N2 m2 m3 hf2 => vMo_strides_30 ?_)
  have hT : RT N2 (r + 1) 0 T := RT_fr hR2.1 (fun j => hf2 _ _ (by omega) (by omega))
  refine qMo_takesStrides (S := F) (RN_of.mp hT) hn.2 (by rw [hf2 _ _ (by omega) (by omega)]; exact ek) hk.1 hk.2 (fun j j0 j1 => by rw [hf2 _ _ (by omega) (by omega)]; exact eF' j j0 j1) (fun N3 hc3 hf3 => vMo_strides_34 ?_)
  have hc4 : RN N3 (r + 1) T2 (tK T2) := by rw [e2]; exact hc3
  have hA := ActR_of hR2 m2 m3 hf2 (RN_of.mpr hc4) hf3
  refine qMo_isDone hw hw2 hA hnum (by omega) (fun N4 t2 t0 ht hR4 hf4 => vMo_strides_38 (qe (kk N4 t2 t0 ht hR4 (fun b j h => by rw [hf4 b j (chD_fr h), hf3 b j (by omega), hf2 b j (by omega) (by omega)]; exact hf b j (by omega) (by omega))) ?_))
  rw [hx, hf4 _ _ (by unfold chD; omega), hf3 _ _ (by omega), hf2 _ _ (by omega) (by omega)]
  exact ek
theorem bo_strides (n : Int) (n1 : n < 9223372036854775808) : Bo kRS_strides [xO 8 0, xL n, xU] kMo_strides [xO 9 198, xL n, xU] xI :=
  bo_act (fun σ x => spStR σ.1 n x) (fun σ x T2 => spStA σ.1 n x T2) (fun _ _ _ _ _ _ _ _ _ _ _ hw hC kk ka => aRS_strides n1 hw hC kk ka) (fun _ _ _ _ _ _ _ _ _ _ _ _ hw hR h kk => aMo_stR n1 hw hR h kk) (fun _ _ _ _ _ _ _ _ _ _ _ _ _ hw hw2 hR h kk => aMo_stA n1 hw hw2 hR h kk)
/-! gather -/
def spGaR (T : TB) (x : Int) : Prop := (fwN T ∧ x = -2) ∨ (¬ fwN T ∧ fwS T ∧ x = -3)
def spGaA (T : TB) (x : Int) (T2 : TB) : Prop := ¬ fwN T ∧ ¬ fwS T ∧ T2 = gT T ∧ x = tN (gT T)
theorem aRS_gather (hw : Wf T a P kp S) (hC : Cls M s T a P kp S tt g z) (kk : ∀ (N : xM) (x : Int), spGaR T x → Cls N s T a P kp S tt g z → frC M N s → Q (xI x) N) (ka : ∀ (N : xM) (x : Int) (T2 : TB), spGaA T x T2 → tWF T2 → (∀ t2 : Int, 0 ≤ t2 → isTd T2 T t2 → Cls N s T2 (pA a) (pP a P T) kp S t2 g z) → frC M N s → Q (xI x) N) : Ru (d + 100) kRS_gather 0 [xO 8 s] [] M Q := by
  refine vRS_gather_0 (qRS_seeFewest hw hC (fun N hN hF hf => vRS_gather_4 ?_))
  have hfr : frC M N s := fun b j h => hf b j (by omega) (by omega) (by omega)
  refine qFewest_hasNone hw.1 hF (fun y => vRS_gather_11 ⟨fun q => absurd q (by decide), fun _ => kk N _ (Or.inl ⟨y, rfl⟩) hN hfr⟩) (fun y => vRS_gather_11 ⟨fun _ => ?_, fun q => absurd rfl q⟩)
  refine qTable_hasRulesOf hw.1 hN.1 hF (fun y2 => vRS_gather_28 ⟨fun q => absurd q (by decide), fun _ => kk N _ (Or.inr ⟨y, y2, rfl⟩) hN hfr⟩) (fun y2 => vRS_gather_28 ⟨fun _ => ?_, fun q => absurd rfl q⟩)
  refine qRS_beginAct hw hN (fun N2 hA hT hf2 => vRS_gather_38 ?_)
  have hF2 : FW N2 (s + 69) T := FW_fr hF (fun b j b0 b1 => hf2 b j (by omega) (by omega) (by omega))
  refine qTable_takeRules hw.1 y hT hF2 (by omega) (fun N3 hc3 hf3 => vRS_gather_49 ?_)
  have hA3 : ActC N3 s T a P kp S g z := ActC_fr hw hA (fun b j q1 q2 => hf3 b j (by omega))
  exact ka N3 _ (gT T) ⟨y, y2, rfl, hc3.1⟩ (gT_wf hw.1 y) (fun t2 t0 ht => ActC_done hw hA3 hc3 t0 ht) (fun b j h => by rw [hf3 b j (by omega), hf2 b j (by omega) (by omega) (by omega)]; exact hfr b j h)
theorem few_loop (hw : tWF T) (hF : RFw M r T) (h2 : fwN T → Q (xI (-2)) M) (h1 : ¬ fwN T → ∀ i : Int, Ru (d + 99) kMo_areFewest 0 [xO 9 r, xU, xU] [] M (fun v N => Ru (d + 100) kMo_gather 37 [xO 9 r, xI i] [v] N Q)) : Ru (d + 100) kMo_gather 4 [xO 9 r, xU] [] M Q := by
  have n60 := fw_60 hw
  have e : M r 46 = ((fw T).length : Int) := hF.1
  obtain ⟨n, hn⟩ : ∃ n : Int, n = ((fw T).length : Int) := ⟨_, rfl⟩
  rw [← hn] at e n60
  have main : ∀ i : Int, i ≤ n → 0 ≤ i → (∀ k : Int, 0 ≤ k → k < i → ¬ (lE (fw T) k).2.2 = -1) → Ru (d + 100) kMo_gather 6 [xO 9 r, xI i] [] M Q := by
    refine loop_up n (fun i hi ih i0 hk => ?_)
    refine vMo_gather_6 ?_
    rw [e]
    refine ⟨fun y => h1 (fun ⟨k, k0, k1⟩ => hk k k0.1 (by omega) k1) i, fun y => ⟨by omega, ?_⟩⟩
    have ea := (RFw_at hF i0 (by omega)).2.2
    rw [ea, z32_id (by omega) (by omega)]
    refine ⟨fun y2 => ih (i + 1) (by omega) (by omega) (by omega) (fun k k0 k1 => ?_), fun y2 => h2 ⟨i, ⟨i0, by omega⟩, Classical.not_not.mp y2⟩⟩
    by_cases c : k = i
    · rw [c]; exact y2
    · exact hk k k0 (by omega)
  exact vMo_gather_4 (main 0 (by omega) (Int.le_refl _) (fun k k0 k1 => by omega))
theorem Ref_few {N : xM} (hw : tWF T) (hR : Ref M r T a P kp S tt g z) (hf : ∀ b j : Int, ¬ (b = r ∧ j = 46) → ¬ (r + 28 ≤ b ∧ b ≤ r + 30) → N b j = M b j) : Ref N r T a P kp S tt g z ∧ frR M N r := ⟨Ref_fr hw hR (fun b j h => by unfold rOk at h; exact hf b j (by omega) (by omega)), fun b j h => hf b j (by omega) (by omega)⟩
theorem aMo_gaR {x : Int} (hw : Wf T a P kp S) (hR : Ref M r T a P kp S tt g z) (h : spGaR T x) (kk : ∀ N : xM, Ref N r T a P kp S tt g z → frR M N r → Q (xI x) N) : Ru (d + 100) kMo_gather 0 [xO 9 r, xU] [] M Q := by
  refine vMo_gather_0 (qMo_laysFewest hw.1 (RN_of.mp hR.1) hR.2.1.1 (fun N hF hf => ?_))
  obtain ⟨hR2, hfr⟩ := Ref_few hw.1 hR hf
  have hq := kk N hR2 hfr
  refine few_loop hw.1 hF (fun y => ?_) (fun y i => ?_)
  · rcases h with ⟨_, hx⟩ | ⟨c, _⟩
    · exact qe hq hx.symm
    · exact absurd y c
  · rcases h with ⟨c, _⟩ | ⟨_, c, hx⟩
    · exact absurd c y
    · exact qMo_areFewest hw.1 hR2.1 hF (fun _ => vMo_gather_37 ⟨fun q => absurd q (by decide), fun _ => qe hq hx.symm⟩) (fun n => absurd c n)
theorem aMo_gaA {x : Int} (hw : Wf T a P kp S) (hw2 : tWF T2) (hR : Ref M r T a P kp S tt g z) (h : spGaA T x T2) (kk : ∀ (N : xM) (t2 : Int), 0 ≤ t2 → isTd T2 T t2 → Ref N r T2 (pA a) (pP a P T) kp S t2 g z → frR M N r → Q (xI x) N) : Ru (d + 100) kMo_gather 0 [xO 9 r, xU] [] M Q := by
  obtain ⟨c1, c2, e2, hx⟩ := h
  refine vMo_gather_0 (qMo_laysFewest hw.1 (RN_of.mp hR.1) hR.2.1.1 (fun N hF hf => ?_))
  obtain ⟨hR2, hfr⟩ := Ref_few hw.1 hR hf
  have rb := RL_b hw.1 hR2.2.1
  have hnum := RL_num hw.1 hR2.2.1
  refine few_loop hw.1 hF (fun y => absurd y c1) (fun _ i => qMo_areFewest hw.1 hR2.1 hF (fun y => absurd y c2) (fun _ => vMo_gather_37 ⟨fun _ => ?_, fun q => absurd rfl q⟩))
  refine qMo_keepsAct hw hR2.1 hR2.2.2.2.1.1 hR2.2.2.2.1.2 (fun N2 m2 m3 hf2 => ?_)
  have hT : RT N2 (r + 1) 0 T := RT_fr hR2.1 (fun j => hf2 _ _ (by omega) (by omega))
  have hF2 : RFw N2 r T := ⟨by rw [hf2 _ _ (by omega) (by omega)]; exact hF.1, arrL_fr _ _ hF.2 (fun j _ _ => ⟨hf2 _ _ (by omega) (by omega), hf2 _ _ (by omega) (by omega), hf2 _ _ (by omega) (by omega)⟩)⟩
  refine qMo_gatherL hw.1 c1 (RN_of.mp hT) hF2 i (fun N3 hc3 hf3 => ?_)
  have hc4 : RN N3 (r + 1) T2 (tK T2) := by rw [e2]; exact hc3
  have hA := ActR_of hR2 m2 m3 hf2 (RN_of.mpr hc4) hf3
  refine qMo_isDone hw hw2 hA hnum (by omega) (fun N4 t2 t0 ht hR4 hf4 => vMo_gather_141 ⟨by decide, qe (kk N4 t2 t0 ht hR4 (fun b j h => by rw [hf4 b j (chD_fr h), hf3 b j (by omega), hf2 b j (by omega) (by omega)]; exact hfr b j h)) ?_⟩)
  rw [hx, hR4.1.1, e2]
theorem bo_gather : Bo kRS_gather [xO 8 0] kMo_gather [xO 9 198, xU] xI :=
  bo_act (fun σ x => spGaR σ.1 x) (fun σ x T2 => spGaA σ.1 x T2) (fun _ _ _ _ _ _ _ _ _ _ _ hw hC kk ka => aRS_gather hw hC kk ka) (fun _ _ _ _ _ _ _ _ _ _ _ _ hw hR h kk => aMo_gaR hw hR h kk) (fun _ _ _ _ _ _ _ _ _ _ _ _ _ hw hw2 hR h kk => aMo_gaA hw hw2 hR h kk)
end Strides

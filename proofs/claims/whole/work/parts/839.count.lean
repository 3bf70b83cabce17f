/-! CALLS THAT ASK: steps, count. -/
section Asks7
variable {d : Nat} {M : xM} {Q : xQ} {s r : Int} {T : TB} {a : Int} {P : Int → TB} {kp : Int} {S : Int → TB} {tt : Int} {g : Int → Int} {z : Int}
theorem stp_cg {lf lf2 : Int → Int} : ∀ k : Nat, (∀ l : Int, 0 ≤ l → l ≤ k → lf l = lf2 l) → stp T lf k = stp T lf2 k
  | 0, _ => rfl
  | k + 1, h => by
    show stp T lf k + (lf (k + 1) - lf k) * wd (tB (tS T) k) = stp T lf2 k + (lf2 (k + 1) - lf2 k) * wd (tB (tS T) k)
    rw [stp_cg k (fun l l0 l1 => h l l0 (by omega)), h k (by omega) (by omega), h (k + 1) (by omega) (by omega)]
def spSteps (T : TB) (x : Int) : Prop := ∃ (m : Int) (lf vl lv : Int → Int) (A k : Nat), isNum T m lf vl lv ∧ (A : Int) = stp T lf (tZ T).toNat ∧ (2 ^ k ≤ A ∧ A < 2 ^ (k + 1)) ∧ (32 ≤ k ∧ k ≤ 52) ∧ x = (((k + 991) * 4503599627370496 + (A * 2 ^ (52 - k) - 4503599627370496) : Nat) : Int)
theorem aRS_steps (hw : Wf T a P kp S) (hC : Cls M s T a P kp S tt g z) (kk : ∀ (N : xM) (x : Int), spSteps T x → Cls N s T a P kp S tt g z → frC M N s → Q (xL x) N) : Ru (d + 100) kRS_steps 0 [xO 8 s] [] M Q := by
  refine vRS_steps_0 (qRS_seeNodes hw hC (fun N hN hT _ hf => vRS_steps_4 (qNodes_allSteps hw.1 hT (vRS_steps_11 ?_))))
  have hnum := NT_num hT
  have h0 := num_0 hw.1 hnum
  have h9 := hT.2.1.2.2.2.1
  obtain ⟨A, k, e, k1, k2, k3, k4⟩ := stp_top hw.1 hnum h0 (by omega)
  rw [← e]
  exact qRS_bitsOfMean k1 k2 k4 k3 (vRS_steps_14 (kk N _ ⟨_, _, _, _, A, k, hnum, e, ⟨k1, k2⟩, ⟨k3, k4⟩, rfl⟩ hN (fr_seeN hf)))
theorem aMo_steps {x : Int} (hw : Wf T a P kp S) (hR : Ref M r T a P kp S tt g z) (h : spSteps T x) (kk : ∀ N : xM, Ref N r T a P kp S tt g z → frR M N r → Q (xL x) N) : Ru (d + 100) kMo_steps 0 [xO 9 r, xU, xU, xU] [] M Q := by
  have hZ := hw.1.2.2.2.2.2.1
  obtain ⟨m, lf, vl, lv, A, k, hnum, e, k1, k2, hx⟩ := h
  have hnR := RL_num hw.1 hR.2.1
  obtain ⟨es, el, ev⟩ := num_u hw.1 hnum hnR
  rw [stp_cg (T := T) (lf := lf) (lf2 := M (r + 15)) (tZ T).toNat (fun l l0 l1 => el l l0 (by omega))] at e
  exact qMo_steps hw.1 hR.2.1 e k1.1 k1.2 k2.1 k2.2 (qeL (kk M hR frR_r) hx.symm)
theorem bo_steps : Bo kRS_steps [xO 8 0] kMo_steps [xO 9 198, xU, xU, xU] xL :=
  bo_q (fun σ x => spSteps σ.1 x) (fun _ _ _ _ _ _ _ _ _ _ _ hw hC kk => aRS_steps hw hC kk) (fun _ _ _ _ _ _ _ _ _ _ _ _ hw hR h kk => aMo_steps hw hR h kk)
/-! what the last act touched -/
theorem Cls_7 (hw : Wf T a P kp S) (h : Cls M s T a P kp S tt g z) : Cls (up M s 7 tt) s T a P kp S tt g z := by
  have e : ∀ b j : Int, ¬ (b = s ∧ j = 7) → up M s 7 tt b j = M b j := fun b j q => up_un (by omega)
  obtain ⟨h1, ⟨h2, ⟨p1, p2⟩, h3⟩, ⟨⟨h4, h4', h4''⟩, h5⟩, h6, h7, h8, h9⟩ := h
  have e17 : ∀ j : Int, up M s 7 tt (s + 17) j = M (s + 17) j := fun j => e _ _ (by omega)
  refine ⟨CT_fr h1 (fun b j b0 b1 => e b j (by omega)), ⟨by rw [e _ _ (by omega)]; exact h2, ⟨fun i i0 i1 => by rw [e17]; exact p1 i i0 i1, fun i j i0 ij j1 => by rw [e17, e17]; exact p2 i j i0 ij j1⟩, fun i i0 i1 => ?_⟩, ⟨⟨by rw [e _ _ (by omega)]; exact h4, by rw [e _ _ (by omega)]; exact h4', by rw [e _ _ (by omega)]; exact h4''⟩, fun i i0 i1 q => CT_fr (h5 i i0 i1 q) (fun b j b0 b1 => e b j (by omega))⟩, ⟨h6.1, Or.inl (up_at rfl rfl)⟩, KN_fr h7 (e _ _ (by omega)) (fun b j b0 b1 _ _ _ _ => e b j (by omega)) (fun j _ => e _ _ (by omega)), TG_fr h8 (e _ _ (by omega)) (fun j => e _ _ (by omega)), ⟨⟨?_, ?_, ?_, ?_⟩, fun j j0 j1 => ?_⟩⟩
  · rw [e17]
    obtain ⟨j, j0, j1⟩ := p1 i i0 (by have := hw.2.1; omega)
    exact CT_fr (h3 i i0 i1) (fun b j b0 b1 => e b j (by omega))
  · rw [e _ _ (by omega)]; exact h9.1.1
  · rw [e _ _ (by omega)]; exact h9.1.2.1
  · rw [e _ _ (by omega)]; exact h9.1.2.2.1
  · rw [e _ _ (by omega)]; exact h9.1.2.2.2
  · rw [e _ _ (by omega)]; exact h9.2 j j0 j1
theorem qRS_touchedByLastAct (hw : Wf T a P kp S) (hC : Cls M s T a P kp S tt g z) (kk : ∀ N : xM, Cls N s T a P kp S tt g z → frC M N s → Q (xI tt) N) : Ru (d + 10) kRS_touchedByLastAct 0 [xO 8 s] [] M Q := by
  obtain ⟨t0, ht⟩ := hC.2.2.2.1
  have ha := hw.2.1
  refine vRS_touchedByLastAct_0 ?_
  rw [hC.2.1.1]
  refine ⟨fun y => qe (kk M hC frC_r) ?_, fun y => ?_⟩
  · rcases ht with c | c
    · exact c
    · exact absurd c.1 y
  have y7 := Classical.not_not.mp y
  rcases ht with c | ⟨-, a0, hd⟩
  · omega
  refine ⟨fun q => by omega, fun _ => ⟨fun q => by omega, fun _ => ?_⟩⟩
  refine qRS_seeNodes hw hC (fun N hN hT _ hf => vRS_touchedByLastAct_28 ?_)
  rw [hN.2.1.1, z32_id (by omega) (by omega)]
  refine ⟨by omega, ?_⟩
  obtain ⟨j, j0, ej⟩ := hN.2.1.2.1.1 (a - 1) (by omega) (by omega)
  have hc := hN.2.1.2.2 (a - 1) (by omega) (by omega)
  have hw2 := hw.2.2.1 (a - 1) (by omega) (by omega)
  refine qRS_touchedAgainst hw hw2 hN hT hc (by omega) (fun N2 x hx hN2 hf2 => vRS_touchedByLastAct_44 ?_)
  rw [isTd_u hw.1 hw2 hx hd, up_at rfl rfl]
  exact kk _ (Cls_7 hw hN2) (fun b j h => by rw [up_un (by omega), hf2 b j (by omega) (by omega)]; exact hf b j (by omega) (by omega) (by omega))
/-! count -/
def spCount (T : TB) (a kp tt z w x : Int) : Prop := (w = 0 → x = tN T) ∧ (w = 1 → x = cq (fun g => 0 < tU T g) (60 : Int).toNat) ∧ (w = 2 → x = tZ T) ∧ (w = 3 → ∃ (m : Int) (lf vl lv : Int → Int), isNum T m lf vl lv ∧ x = m) ∧ (w = 4 → ∃ (m : Int) (lf vl lv K : Int → Int), isNum T m lf vl lv ∧ isKind T lf vl K ∧ x = cq (fun n => K n = n) m.toNat) ∧ (w = 5 → ∃ (m : Int) (lf vl lv : Int → Int), isNum T m lf vl lv ∧ x = sM T vl lv m.toNat) ∧ (w = 6 → ∃ (m : Int) (F K : Int → Int), isRows T m F K ∧ x = m) ∧ (w = 7 → x = cq (idN T) (tN T).toNat) ∧ (w = 8 → x = tt) ∧ (w = 9 → x = a) ∧ (w = 10 → x = z) ∧ (w = 11 → x = kp) ∧ (w = 12 → ∃ (m : Int) (lf vl lv : Int → Int), isNum T m lf vl lv ∧ x = lv (m - 1) + 1) ∧ (¬ (0 ≤ w ∧ w ≤ 12) → x = -1)
theorem aRS_count {w : Int} (hw : Wf T a P kp S) (hC : Cls M s T a P kp S tt g z) (kk : ∀ (N : xM) (x : Int), spCount T a kp tt z w x → Cls N s T a P kp S tt g z → frC M N s → Q (xI x) N) : Ru (d + 100) kRS_count 0 [xO 8 s, xI w] [] M Q := by
  have no : ∀ (i : Int) (R : Prop), ¬ w = i → w = i → R := fun i R h1 h2 => absurd h2 h1
  refine vRS_count_0 ⟨fun q => ?_, fun q0 => ⟨fun q => ?_, fun q1 => ⟨fun q => ?_, fun q2 => ⟨fun q => ?_, fun q3 => ⟨fun q => ?_, fun q4 => ⟨fun q => ?_, fun q5 => ⟨fun q => ?_, fun q6 => ⟨fun q => ?_, fun q7 => ⟨fun q => ?_, fun q8 => ⟨fun q => ?_, fun q9 => ⟨fun q => ?_, fun q10 => ⟨fun q => ?_, fun q11 => ⟨fun q => ?_, fun q12 => ?_⟩⟩⟩⟩⟩⟩⟩⟩⟩⟩⟩⟩⟩
  · subst q
    exact kk M _ ⟨fun _ => hC.1.1, fun h => absurd h (by decide), fun h => absurd h (by decide), fun h => absurd h (by decide), fun h => absurd h (by decide), fun h => absurd h (by decide), fun h => absurd h (by decide), fun h => absurd h (by decide), fun h => absurd h (by decide), fun h => absurd h (by decide), fun h => absurd h (by decide), fun h => absurd h (by decide), fun h => absurd h (by decide), fun h => absurd (by decide) h⟩ hC frC_r
  · subst q
    exact qTable_hops hC.1 (vRS_count_83 (kk M _ ⟨fun h => absurd h (by decide), fun _ => rfl, fun h => absurd h (by decide), fun h => absurd h (by decide), fun h => absurd h (by decide), fun h => absurd h (by decide), fun h => absurd h (by decide), fun h => absurd h (by decide), fun h => absurd h (by decide), fun h => absurd h (by decide), fun h => absurd h (by decide), fun h => absurd h (by decide), fun h => absurd h (by decide), fun h => absurd (by decide) h⟩ hC frC_r))
  · subst q
    exact kk M _ ⟨fun h => absurd h (by decide), fun h => absurd h (by decide), fun _ => hC.1.2.2.2.1, fun h => absurd h (by decide), fun h => absurd h (by decide), fun h => absurd h (by decide), fun h => absurd h (by decide), fun h => absurd h (by decide), fun h => absurd h (by decide), fun h => absurd h (by decide), fun h => absurd h (by decide), fun h => absurd h (by decide), fun h => absurd h (by decide), fun h => absurd (by decide) h⟩ hC frC_r
  · subst q
    exact qRS_seeNodes hw hC (fun N hN hT _ hf => vRS_count_96 (kk N _ ⟨fun h => absurd h (by decide), fun h => absurd h (by decide), fun h => absurd h (by decide), fun _ => ⟨_, _, _, _, NT_num hT, rfl⟩, fun h => absurd h (by decide), fun h => absurd h (by decide), fun h => absurd h (by decide), fun h => absurd h (by decide), fun h => absurd h (by decide), fun h => absurd h (by decide), fun h => absurd h (by decide), fun h => absurd h (by decide), fun h => absurd h (by decide), fun h => absurd (by decide) h⟩ hN (fr_seeN hf)))
  · subst q
    refine qRS_seeKinds hw hC (fun N hN hT hK hf => vRS_count_108 ?_)
    have hnum := NT_num hT
    have h0 := num_0 hw.1 hnum
    refine qKinds_unlikeIn (by decide) (by omega) hT.2.1.2.2.2.1 (vRS_count_123 (kk N _ ⟨fun h => absurd h (by decide), fun h => absurd h (by decide), fun h => absurd h (by decide), fun h => absurd h (by decide), fun _ => ⟨_, _, _, _, _, hnum, hK, ?_⟩, fun h => absurd h (by decide), fun h => absurd h (by decide), fun h => absurd h (by decide), fun h => absurd h (by decide), fun h => absurd h (by decide), fun h => absurd h (by decide), fun h => absurd h (by decide), fun h => absurd h (by decide), fun h => absurd (by decide) h⟩ hN (fr_seeK hf)))
    exact Int.sub_zero _
  · subst q
    refine qRS_seeNodes hw hC (fun N hN hT _ hf => vRS_count_128 ?_)
    have hnum := NT_num hT
    have h0 := num_0 hw.1 hnum
    refine qNodes_storedIn hw.1 hT (by decide) (by omega) (Int.le_refl _) (vRS_count_143 (kk N _ ⟨fun h => absurd h (by decide), fun h => absurd h (by decide), fun h => absurd h (by decide), fun h => absurd h (by decide), fun h => absurd h (by decide), fun _ => ⟨_, _, _, _, hnum, ?_⟩, fun h => absurd h (by decide), fun h => absurd h (by decide), fun h => absurd h (by decide), fun h => absurd h (by decide), fun h => absurd h (by decide), fun h => absurd h (by decide), fun h => absurd h (by decide), fun h => absurd (by decide) h⟩ hN (fr_seeN hf)))
    exact Int.sub_zero _
  · subst q
    exact qRS_seeSpans hw hC (fun N hN hS _ hf => vRS_count_148 (kk N _ ⟨fun h => absurd h (by decide), fun h => absurd h (by decide), fun h => absurd h (by decide), fun h => absurd h (by decide), fun h => absurd h (by decide), fun h => absurd h (by decide), fun _ => ⟨_, _, _, (SP_SR hw.1 hS).1, rfl⟩, fun h => absurd h (by decide), fun h => absurd h (by decide), fun h => absurd h (by decide), fun h => absurd h (by decide), fun h => absurd h (by decide), fun h => absurd h (by decide), fun h => absurd (by decide) h⟩ hN (fr_see hf)))
  · subst q
    refine qRS_seeSpans hw hC (fun N hN hS _ hf => vRS_count_160 ?_)
    rw [hN.1.1]
    exact qSpans_idle hw.1 hS.2.2.1 (vRS_count_174 (kk N _ ⟨fun h => absurd h (by decide), fun h => absurd h (by decide), fun h => absurd h (by decide), fun h => absurd h (by decide), fun h => absurd h (by decide), fun h => absurd h (by decide), fun h => absurd h (by decide), fun _ => rfl, fun h => absurd h (by decide), fun h => absurd h (by decide), fun h => absurd h (by decide), fun h => absurd h (by decide), fun h => absurd h (by decide), fun h => absurd (by decide) h⟩ hN (fr_see hf)))
  · subst q
    exact qRS_touchedByLastAct (d := d + 89) hw hC (fun N hN hF => vRS_count_179 (kk N _ ⟨fun h => absurd h (by decide), fun h => absurd h (by decide), fun h => absurd h (by decide), fun h => absurd h (by decide), fun h => absurd h (by decide), fun h => absurd h (by decide), fun h => absurd h (by decide), fun h => absurd h (by decide), fun _ => rfl, fun h => absurd h (by decide), fun h => absurd h (by decide), fun h => absurd h (by decide), fun h => absurd h (by decide), fun h => absurd (by decide) h⟩ hN hF))
  · subst q
    exact kk M _ ⟨fun h => absurd h (by decide), fun h => absurd h (by decide), fun h => absurd h (by decide), fun h => absurd h (by decide), fun h => absurd h (by decide), fun h => absurd h (by decide), fun h => absurd h (by decide), fun h => absurd h (by decide), fun h => absurd h (by decide), fun _ => hC.2.1.1, fun h => absurd h (by decide), fun h => absurd h (by decide), fun h => absurd h (by decide), fun h => absurd (by decide) h⟩ hC frC_r
  · subst q
    exact kk M _ ⟨fun h => absurd h (by decide), fun h => absurd h (by decide), fun h => absurd h (by decide), fun h => absurd h (by decide), fun h => absurd h (by decide), fun h => absurd h (by decide), fun h => absurd h (by decide), fun h => absurd h (by decide), fun h => absurd h (by decide), fun h => absurd h (by decide), fun _ => hC.2.2.2.2.2.1.2.1, fun h => absurd h (by decide), fun h => absurd h (by decide), fun h => absurd (by decide) h⟩ hC frC_r
  · subst q
    exact kk M _ ⟨fun h => absurd h (by decide), fun h => absurd h (by decide), fun h => absurd h (by decide), fun h => absurd h (by decide), fun h => absurd h (by decide), fun h => absurd h (by decide), fun h => absurd h (by decide), fun h => absurd h (by decide), fun h => absurd h (by decide), fun h => absurd h (by decide), fun h => absurd h (by decide), fun _ => hC.2.2.1.1.1, fun h => absurd h (by decide), fun h => absurd (by decide) h⟩ hC frC_r
  · subst q
    exact qRS_seeNodes hw hC (fun N hN hT _ hf => vRS_count_202 (qNodes_deepest hw.1 hT (vRS_count_209 (kk N _ ⟨fun h => absurd h (by decide), fun h => absurd h (by decide), fun h => absurd h (by decide), fun h => absurd h (by decide), fun h => absurd h (by decide), fun h => absurd h (by decide), fun h => absurd h (by decide), fun h => absurd h (by decide), fun h => absurd h (by decide), fun h => absurd h (by decide), fun h => absurd h (by decide), fun h => absurd h (by decide), fun _ => ⟨_, _, _, _, NT_num hT, rfl⟩, fun h => absurd (by decide) h⟩ hN (fr_seeN hf)))))
  · exact kk M _ ⟨no _ _ q0, no _ _ q1, no _ _ q2, no _ _ q3, no _ _ q4, no _ _ q5, no _ _ q6, no _ _ q7, no _ _ q8, no _ _ q9, no _ _ q10, no _ _ q11, no _ _ q12, fun _ => rfl⟩ hC frC_r
theorem all_up {F : Int → Int} {w : Int} (hw : Wf T a P kp S) (hR : Ref M r T a P kp S tt g z) (F0 : F 0 = 0) (Fb : ∀ l : Int, 0 ≤ l → l ≤ tZ T → 0 ≤ F l ∧ F l ≤ 200000) (hl : ∀ (d : Nat) (N : xM) (Q : xQ) (l : Int), Ref N r T a P kp S tt g z → 0 ≤ l → l < tZ T → (∀ N2 : xM, Ref N2 r T a P kp S tt g z → frR N N2 r → Q (xI (F (l + 1) - F l)) N2) → Ru (d + 10) kMo_level 0 [xO 9 r, xI l, xI w] [] N Q) (kk : ∀ N : xM, Ref N r T a P kp S tt g z → frR M N r → Q (xI (F (tZ T))) N) : Ru (d + 11) kMo_allLevels 0 [xO 9 r, xI w, xU, xU] [] M Q := by
  have hZ := hw.1.2.2.2.2.2.1
  have main : ∀ l : Int, l ≤ tZ T → ∀ N : xM, 0 ≤ l → Ref N r T a P kp S tt g z → frR M N r → Ru (d + 11) kMo_allLevels 4 [xO 9 r, xI w, xI (F l), xI l] [] N Q := by
    refine loop_up (tZ T) (fun l h1 ih N l0 hN hF => ?_)
    refine vMo_allLevels_4 ⟨by decide, ?_⟩
    rw [hN.2.1.1.2.2.1]
    refine ⟨fun y => ?_, fun y => hl _ N _ l hN l0 (by omega) (fun N2 hN2 hF2 => vMo_allLevels_21 ?_)⟩
    · rw [show l = tZ T by omega]
      exact kk N hN hF
    · have b0 := Fb l l0 (by omega)
      have b1 := Fb (l + 1) (by omega) (by omega)
      rw [show F l + (F (l + 1) - F l) = F (l + 1) by omega, z32_id (by omega) (by omega), z32_id (by omega) (by omega)]
      exact ih (l + 1) (by omega) (by omega) N2 (by omega) hN2 (frR_t hF hF2)
  have := main 0 (by omega) M (Int.le_refl _) hR frR_r
  rw [F0] at this
  exact vMo_allLevels_0 this
theorem qMo_keptSet (hw : Wf T a P kp S) (hR : Ref M r T a P kp S tt g z) (h : Q (xI kp) M) : Ru d kMo_keptSet 0 [xO 9 r, xU, xU] [] M Q := by
  have hk := hw.2.2.2.1
  have e0 := (hR.2.2.2.2.1 0 (by decide) (by decide)).1
  have e1 := (hR.2.2.2.2.1 1 (by decide) (by decide)).1
  have z1 : z32 (0 + 1) = 1 := by decide
  have z2 : z32 (1 + 1) = 2 := by decide
  have fin : ∀ x : Int, x = kp → Ru d kMo_keptSet 4 [xO 9 r, xI x, xI 2] [] M Q := fun x hx => vMo_keptSet_4 ⟨fun _ => qe h hx, fun y => absurd (by decide) y⟩
  have two : ∀ x : Int, (kb kp 1 = 0 → ior x 0 = kp) → (¬ kb kp 1 = 0 → ior x (ishl 1 1) = kp) → Ru d kMo_keptSet 4 [xO 9 r, xI x, xI 1] [] M Q := by
    intro x h0 h1
    refine vMo_keptSet_4 ⟨fun y => absurd y (by decide), fun _ => ⟨by decide, ?_⟩⟩
    rw [e1, z2]
    exact ⟨fun y => fin _ (h0 y), fun y => fin _ (h1 y)⟩
  refine vMo_keptSet_0 (vMo_keptSet_4 ⟨fun y => absurd y (by decide), fun _ => ⟨by decide, ?_⟩⟩)
  rw [e0, z1]
  refine ⟨fun y => two _ ?_ ?_, fun y => two _ ?_ ?_⟩
  all_goals
    intro y2
    unfold kb at y y2
    rw [if_pos rfl] at y
    rw [if_neg (by decide)] at y2
    rcases (by omega : kp = 0 ∨ kp = 1 ∨ kp = 2 ∨ kp = 3) with h | h | h | h <;> subst h <;> first | omega | decide
theorem aMo_count {w x : Int} (hw : Wf T a P kp S) (hR : Ref M r T a P kp S tt g z) (h : spCount T a kp tt z w x) (kk : ∀ N : xM, Ref N r T a P kp S tt g z → frR M N r → Q (xI x) N) : Ru (d + 100) kMo_count 0 [xO 9 r, xI w] [] M Q := by
  have hZ := hw.1.2.2.2.2.2.1
  have hq := kk M hR frR_r
  have hN := RN_of.mp hR.1
  have hnR := RL_num hw.1 hR.2.1
  have rb := RL_b hw.1 hR.2.1
  obtain ⟨f0, f1, f2, f3, f4, f5, f6, f7, f8, f9, f10, f11, f12, f13⟩ := h
  refine vMo_count_0 ⟨fun q => ⟨by decide, ?_⟩, fun q0 => ⟨fun q => ?_, fun q1 => ⟨fun q => ⟨by decide, ?_⟩, fun q2 => ⟨fun q => ?_, fun q3 => ⟨fun q => ?_, fun q4 => ⟨fun q => ?_, fun q5 => ⟨fun q => ⟨by decide, ?_⟩, fun q6 => ⟨fun q => ?_, fun q7 => ⟨fun q => ?_, fun q8 => ⟨fun q => ?_, fun q9 => ⟨fun q => ?_, fun q10 => ⟨fun q => ?_, fun q11 => ⟨fun q => ?_, fun q12 => ?_⟩⟩⟩⟩⟩⟩⟩⟩⟩⟩⟩⟩⟩
  · exact qe hq (by rw [f0 q]; exact hN.1)
  · exact qMo_hops hw.1 hR.1 (vMo_count_79 (qe hq (f1 q).symm))
  · exact qe hq (by rw [f2 q]; exact hN.2.1)
  · obtain ⟨m, lf, vl, lv, hnum, hx⟩ := f3 q
    exact qe hq (by rw [hx]; exact (num_u hw.1 hnum hnR).1.symm)
  · obtain ⟨m, lf, vl, lv, K, hnum, hK, hx⟩ := f4 q
    obtain ⟨es, el, ev⟩ := num_u hw.1 hnum hnR
    refine all_up (d := d + 88) (F := fun l => cq (fun n => K n = n) (lf l).toNat) hw hR (by show cq _ (lf 0).toNat = 0; rw [hnum.1.1]; rfl) (fun l l0 l1 => ?_) (fun d N Q l hN l0 l1 k => qMo_level3 hw hN hnum hK l0 l1 k) (fun N hN hF => vMo_count_97 (qe (kk N hN hF) ?_))
    · have b := cq_b (fun n => K n = n) (lf l).toNat
      have m0 := num_mono hnum (i := 0) (j := l) (by decide) l0 l1
      have m2 := num_mono hnum (i := l) (j := tZ T) l0 l1 (Int.le_refl _)
      have := hnum.1
      exact ⟨b.1, by show cq _ _ ≤ _; omega⟩
    · rw [hx]; show cq _ (lf (tZ T)).toNat = _; rw [hnum.1.2.2]
  · obtain ⟨m, lf, vl, lv, hnum, hx⟩ := f5 q
    obtain ⟨es, el, ev⟩ := num_u hw.1 hnum hnR
    refine all_up (d := d + 88) (F := fun l => sM T vl lv (lf l).toNat) hw hR (by show sM T vl lv (lf 0).toNat = 0; rw [hnum.1.1]; rfl) (fun l l0 l1 => ?_) (fun d N Q l hN l0 l1 k => qMo_level2 hw hN hnum l0 l1 k) (fun N hN hF => vMo_count_103 (qe (kk N hN hF) ?_))
    · have m0 := num_mono hnum (i := 0) (j := l) (by decide) l0 l1
      have m2 := num_mono hnum (i := l) (j := tZ T) l0 l1 (Int.le_refl _)
      have hn1 := hnum.1
      have b := sM_b hw.1 hnum (lf l).toNat (by omega)
      exact ⟨b.1, by show sM T vl lv _ ≤ _; omega⟩
    · rw [hx]; show sM T vl lv (lf (tZ T)).toNat = _; rw [hnum.1.2.2]
  · obtain ⟨m, F, K, hr, hx⟩ := f6 q
    exact qe hq (by rw [hx]; exact (isRows_u hr (RW_0 hR.2.1.1)).1.symm)
  · exact qMo_idle hw.1 hR.1 (fun N hf => vMo_count_115 (qe (kk N (Ref_fr hw.1 hR (fun b j h => by unfold rOk at h; exact hf b j (by omega) (by omega) (by omega))) (fun b j h => hf b j (by omega) (by omega) (by omega))) (f7 q).symm))
  · exact qe hq (by rw [f8 q]; exact hR.2.2.2.2.2.1)
  · exact qe hq (by rw [f9 q]; exact hR.2.2.2.1.1)
  · exact qe hq (by rw [f10 q]; exact hR.2.2.2.2.2.2.2.1)
  · exact qMo_keptSet hw hR (vMo_count_135 (qe hq (f11 q).symm))
  · obtain ⟨m, lf, vl, lv, hnum, hx⟩ := f12 q
    obtain ⟨es, el, ev⟩ := num_u hw.1 hnum hnR
    obtain ⟨l, ha⟩ := num_at hw.1 hnR (show 0 ≤ M r 15 - 1 by omega) (by omega)
    rw [z32_id (x := M r 15 - 1) (by omega) (by omega), ha.2.2.1]
    have lb := ha.1
    rw [z32_id (by omega) (by omega)]
    refine ⟨by omega, qe hq ?_⟩
    rw [hx, (ev (m - 1) (by omega) (by omega)).2, es, ha.2.2.1]
  · exact qe hq (f13 (by omega)).symm
theorem bo_count (w : Int) : Bo kRS_count [xO 8 0, xI w] kMo_count [xO 9 198, xI w] xI :=
  bo_q (fun σ x => spCount σ.1 σ.2.1 σ.2.2.2.1 σ.2.2.2.2.2.1 σ.2.2.2.2.2.2.2 w x) (fun _ _ _ _ _ _ _ _ _ _ _ hw hC kk => aRS_count hw hC kk) (fun _ _ _ _ _ _ _ _ _ _ _ _ hw hR h kk => aMo_count hw hR h kk)
end Asks7

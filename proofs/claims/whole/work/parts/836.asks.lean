/-! CALLS THAT ASK: differs, look, path, node, stored, slot. -/
section Asks4
variable {d : Nat} {M : xM} {Q : xQ} {s r : Int} {T : TB} {a : Int} {P : Int → TB} {kp : Int} {S : Int → TB} {tt : Int} {g : Int → Int} {z : Int}
theorem kb_01 {i : Int} (k0 : 0 ≤ kp) (k1 : kp ≤ 3) (i0 : 0 ≤ i) (i1 : i < 2) : kb kp i = 0 ∨ kb kp i = 1 := by
  unfold kb
  split <;> omega
theorem kb_bit {i : Int} (k0 : 0 ≤ kp) (k1 : kp ≤ 3) (i0 : 0 ≤ i) (i1 : i < 2) : iand kp (ishl 1 i) = 0 ↔ kb kp i = 0 := by
  rcases (by omega : kp = 0 ∨ kp = 1 ∨ kp = 2 ∨ kp = 3) with h | h | h | h <;> rcases (by omega : i = 0 ∨ i = 1) with q | q <;> subst h <;> subst q <;> decide
theorem qRS_isKept {i : Int} (hw : Wf T a P kp S) (hC : Cls M s T a P kp S tt g z) (i0 : 0 ≤ i) (i1 : i < 2) (h1 : kb kp i = 1 → Q (xI 1) M) (h0 : ¬ kb kp i = 1 → Q (xI 0) M) : Ru d kRS_isKept 0 [xO 8 s, xI i] [] M Q := by
  have hk := hw.2.2.2.1
  have hb := kb_bit hk.1 hk.2 i0 i1
  have h01 := kb_01 hk.1 hk.2 i0 i1
  refine vRS_isKept_0 ?_
  rw [hC.2.2.1.1.1]
  exact ⟨fun y => h0 (by have := hb.mp y; omega), fun y => h1 (by
    rcases h01 with c | c
    · exact absurd (hb.mpr c) y
    · exact c)⟩
theorem shelf_at {i : Int} (hC : Cls M s T a P kp S tt g z) (i0 : 0 ≤ i) (i1 : i < 2) : M (s + 18) i = s + 184 + 7 * i := by
  have h := hC.2.2.1.1.2
  rcases (by omega : i = 0 ∨ i = 1) with q | q <;> subst q
  · rw [h.1]; omega
  · rw [h.2]; omega
theorem qMo_isShelf {i : Int} (h1 : 0 ≤ i → i < 2 → Q (xI 1) M) (h0 : ¬ (0 ≤ i ∧ i < 2) → Q (xI 0) M) : Ru (d + 1) kMo_isShelf 0 [xI i] [] M Q :=
  vMo_isShelf_0 (qMo_isIn (fun a b => vMo_isShelf_7 (h1 a (by omega))) (fun y => vMo_isShelf_7 (h0 (by omega))))
/-! differs -/
def spDiff (T : TB) (kp : Int) (S : Int → TB) (i w x : Int) : Prop := (¬ ((0 ≤ i ∧ i < 2) ∧ kb kp i = 1 ∧ (w = 0 ∨ w = 1)) → x = -1) ∧ (0 ≤ i → i < 2 → kb kp i = 1 → (w = 0 → x = cq (dP T (S i)) (4294967296 : Int).toNat) ∧ (w = 1 → isFst T (S i) x))
theorem aRS_differs {i w : Int} (hw : Wf T a P kp S) (hC : Cls M s T a P kp S tt g z) (kk : ∀ (N : xM) (x : Int), spDiff T kp S i w x → Cls N s T a P kp S tt g z → frC M N s → Q (xL x) N) : Ru (d + 100) kRS_differs 0 [xO 8 s, xI i, xI w] [] M Q := by
  have go : 0 ≤ i → i < 2 → kb kp i = 1 → (w = 0 ∨ w = 1) → Ru (d + 100) kRS_differs 30 [xO 8 s, xI i, xI w] [] M Q := by
    intro i0 i1 hk w01
    refine vRS_differs_30 (qRS_seeSpans hw hC (fun N hN hS _ hf => vRS_differs_34 ⟨⟨i0, i1⟩, ?_⟩))
    rw [shelf_at hN i0 i1]
    have hw2 := hw.2.2.2.2 i i0 i1 hk
    refine qSpans_survey hw2 (hN.2.2.1.2 i i0 i1 hk) (by omega) (fun N2 hS2 hf2 => vRS_differs_47 ?_)
    have hN2 : Cls N2 s T a P kp S tt g z := Cls_s hw hN (fun b j h1 h2 h3 h4 h5 => hf2 b j (by omega))
    have hF : frC M N2 s := frC_t (fr_see hf) (fun b j h => hf2 b j (by omega))
    have hR1 := SP_SR hw.1 (SP_fr hS (fun b j b0 b1 => hf2 b j (by omega)))
    have hR2 := SP_SR hw2 hS2
    refine ⟨fun q => qSpans_differing hR1 hR2 (fun _ => vRS_differs_68 (kk N2 _ ⟨fun h => absurd ⟨⟨i0, i1⟩, hk, w01⟩ h, fun _ _ _ => ⟨fun _ => rfl, fun h => absurd h q⟩⟩ hN2 hF)) (fun h => absurd rfl h), fun q => qSpans_differing hR1 hR2 (fun h => absurd h (by decide)) (fun _ x hx => vRS_differs_68 (kk N2 _ ⟨fun h => absurd ⟨⟨i0, i1⟩, hk, w01⟩ h, fun _ _ _ => ⟨fun h => ?_, fun _ => hx⟩⟩ hN2 hF))⟩
    exact absurd (Classical.not_not.mp q) (by omega)
  have no : ¬ ((0 ≤ i ∧ i < 2) ∧ kb kp i = 1 ∧ (w = 0 ∨ w = 1)) → (¬ (0 ≤ i ∧ i < 2 ∧ kb kp i = 1) ∨ ¬ (w = 0 ∨ w = 1)) → Q (xL (-1)) M := fun q q2 => kk M _ ⟨fun _ => rfl, fun i0 i1 hk => ⟨fun c => absurd ⟨⟨i0, i1⟩, hk, Or.inl c⟩ q, fun c => absurd ⟨⟨i0, i1⟩, hk, Or.inr c⟩ q⟩⟩ hC frC_r
  refine vRS_differs_0 ⟨fun y => no (by omega) (by omega), fun y => ⟨fun y2 => no (by omega) (by omega), fun y2 => qRS_isKept hw hC (by omega) (by omega) (fun hk => vRS_differs_14 ⟨fun q => absurd q (by decide), fun _ => ⟨fun q => go (by omega) (by omega) hk (by omega), fun q => ⟨fun q2 => go (by omega) (by omega) hk (by omega), fun q2 => no (by omega) (by omega)⟩⟩⟩) (fun hk => vRS_differs_14 ⟨fun _ => no (fun c => hk c.2.1) (Or.inl (fun c => hk c.2.2)), fun q => absurd rfl q⟩)⟩⟩
theorem chT_rOk {b j : Int} (h : rOk r b j) : ¬ chT r 1 b j := by unfold rOk at h; unfold chT; omega
theorem chT_fr {t b j : Int} (h : ¬ (r ≤ b ∧ b ≤ r + 32)) : ¬ chT r t b j := by unfold chT; omega
theorem aMo_differs {i w x : Int} (hw : Wf T a P kp S) (hR : Ref M r T a P kp S tt g z) (h : spDiff T kp S i w x) (kk : ∀ N : xM, Ref N r T a P kp S tt g z → frR M N r → Q (xL x) N) : Ru (d + 100) kMo_differs 0 [xO 9 r, xI i, xI w, xU, xU, xU, xU, xU, xU, xU, xU, xU, xU] [] M Q := by
  have no : ¬ ((0 ≤ i ∧ i < 2) ∧ kb kp i = 1 ∧ (w = 0 ∨ w = 1)) → Q (xL (-1)) M := fun q => qeL (kk M hR frR_r) (h.1 q).symm
  refine vMo_differs_0 (qMo_isShelf (fun i0 i1 => vMo_differs_4 ⟨fun q => absurd q (by decide), fun _ => ⟨⟨i0, i1⟩, ?_⟩⟩) (fun y => vMo_differs_4 ⟨fun _ => no (fun c => y c.1), fun q => absurd rfl q⟩))
  obtain ⟨e4, hT⟩ := hR.2.2.2.2.1 i i0 i1
  have h01 := kb_01 hw.2.2.2.1.1 hw.2.2.2.1.2 i0 i1
  rw [e4]
  refine ⟨fun y => no (fun c => by omega), fun y => qMo_isIn (fun w0 w1 => vMo_differs_23 ⟨fun _ => ?_, fun q => absurd (by decide) q⟩) (fun y2 => vMo_differs_23 ⟨fun q => absurd rfl q, fun _ => no (fun c => by omega)⟩)⟩
  have hk : kb kp i = 1 := by omega
  rw [z32_id (by omega) (by omega)]
  have hw2 := hw.2.2.2.2 i i0 i1 hk
  refine qMo_laysTable hw2 (hT hk) (by omega) (by omega) (by omega) (Or.inr rfl) (by omega) (by omega) (fun N hW2 _ hf => ?_)
  have hR2 : Ref N r T a P kp S tt g z := Ref_fr hw.1 hR (fun b j h => hf b j (chT_rOk h))
  have hF : frR M N r := fun b j h => hf b j (chT_fr h)
  obtain ⟨e0, e1⟩ := h.2 i0 i1 hk
  exact qMo_differsL hR2.2.1.1 hW2 (fun q => qeL (kk N hR2 hF) (e0 q).symm) (fun q y hy => qeL (kk N hR2 hF) (isFst_u hy (e1 (by omega))))
theorem bo_differs (i w : Int) : Bo kRS_differs [xO 8 0, xI i, xI w] kMo_differs [xO 9 198, xI i, xI w, xU, xU, xU, xU, xU, xU, xU, xU, xU, xU] xL :=
  bo_q (fun σ x => spDiff σ.1 σ.2.2.2.1 σ.2.2.2.2.1 i w x) (fun _ _ _ _ _ _ _ _ _ _ _ hw hC kk => aRS_differs hw hC kk) (fun _ _ _ _ _ _ _ _ _ _ _ _ hw hR h kk => aMo_differs hw hR h kk)
/-! look -/
def lk4 (T : TB) (b : Int) : Int := if rl T b = -1 then -1 else if rlB T b (rl T b) (tN T).toNat = -1 then -1 else tH T (rlB T b (rl T b) (tN T).toNat)
noncomputable def lk3 (T : TB) (b e : Int) : Int := nN T (b - b % wd (tB (tS T) (e - 1).toNat)) (wd (tB (tS T) e.toNat)) (b / wd (tB (tS T) e.toNat) % 2 ^ (tS T (e - 1)).toNat + 1).toNat - 1
def spLook (T : TB) (b w x : Int) : Prop := (w = 0 → x = hp T b) ∧ (w = 1 → x = rl T b) ∧ (w = 2 → isThr T b x) ∧ (w = 3 → ∃ e : Int, isThr T b e ∧ x = lk3 T b e) ∧ (w = 4 → x = lk4 T b) ∧ (¬ (0 ≤ w ∧ w ≤ 4) → x = -1)
theorem aRS_look {u w : Int} (hw : Wf T a P kp S) (hC : Cls M s T a P kp S tt g z) (kk : ∀ (N : xM) (x : Int), spLook T (uns u) w x → Cls N s T a P kp S tt g z → frC M N s → Q (xI x) N) : Ru (d + 100) kRS_look 0 [xO 8 s, xI u, xI w, xU, xU, xU] [] M Q := by
  have ub := uns_in u
  have hr := rl_in hw.1 (uns u)
  have hn := hw.1.1
  have rules : (w = 0 ∨ w = 1 ∨ w = 4) → Ru (d + 99) kTable_ruleOf 0 [xO 6 (s + 3), xL (uns u), xU, xU, xU] [] M (fun r N => Ru (d + 100) kRS_look 28 [xO 8 s, xI u, xI w, xL (uns u), xU, xU] [r, xO 8 s] N Q) := by
    intro w3
    refine qTable_ruleOf hw.1 hC.1 (vRS_look_28 (vRS_lookAtRules_0 ⟨fun y => vRS_look_32 (kk M _ ⟨fun _ => ?_, fun _ => by omega, by omega, by omega, fun _ => ?_, by omega⟩ hC frC_r), fun y => ⟨fun y2 => ⟨fun q0 => ⟨fun q1 => ?_, fun q1 => vRS_look_32 (kk M _ ⟨by omega, fun _ => rfl, by omega, by omega, by omega, by omega⟩ hC frC_r)⟩, fun q0 => ⟨by omega, vRS_look_32 (kk M _ ⟨fun _ => ?_, by omega, by omega, by omega, by omega, by omega⟩ hC frC_r)⟩⟩, fun y2 => by omega⟩⟩))
    · exact (if_pos (by omega)).symm
    · exact (if_pos (by omega)).symm
    · refine qRS_seeSpans hw hC (fun N hN hS _ hf => vRS_lookAtRules_37 ⟨by omega, ?_⟩)
      have ho := hS.2.2.2 (rl T (uns u)) (by omega) hr.2.1
      have e := out_rlB hw.1 (by omega) ho
      have hF := fr_see hf
      have lk : lk4 T (uns u) = if N (s + 19 + 6) (rl T (uns u)) = -1 then -1 else tH T (N (s + 19 + 6) (rl T (uns u))) := by
        unfold lk4
        rw [if_neg (by omega), e]
      have ob : N (s + 19 + 6) (rl T (uns u)) = -1 ∨ (0 ≤ N (s + 19 + 6) (rl T (uns u)) ∧ N (s + 19 + 6) (rl T (uns u)) < tN T) := by
        rcases ho with c | c
        · exact Or.inl c.1
        · exact Or.inr ⟨c.1, by omega⟩
      refine ⟨fun c => vRS_look_32 (kk N _ ⟨by omega, by omega, by omega, by omega, fun _ => ?_, by omega⟩ hN hF), fun c => ⟨fun c2 => by omega, fun c2 => ⟨by omega, vRS_look_32 (kk N _ ⟨by omega, by omega, by omega, by omega, fun _ => ?_, by omega⟩ hN hF)⟩⟩⟩
      · rw [lk, if_pos (by omega)]
      · rw [lk, if_neg (by omega)]
        have hh := (hw.1.2.1 _ (show 0 ≤ N (s + 19 + 6) (rl T (uns u)) by omega) (by omega)).2.2.2
        exact (hN.1.2.1 _ (by omega) (by omega)).2.2 hh.1
    · have hh := (hw.1.2.1 (rl T (uns u)) (by omega) hr.2.1).2.2.2
      rw [show hp T (uns u) = tH T (rl T (uns u)) from if_neg (by omega)]
      exact (hC.1.2.1 _ (by omega) hr.2.1).2.2 hh.1
  have nodes : (w = 2 ∨ w = 3) → Ru (d + 100) kRS_look 45 [xO 8 s, xI u, xI w, xL (uns u), xU, xU] [] M Q := by
    intro w2
    refine vRS_look_45 (qRS_seeNodes hw hC (fun N hN hT _ hf => vRS_look_49 (qNodes_goTo hw.1 hT ub.1 ub.2 (fun N2 e he e17 htr hf2 => vRS_look_57 ?_))))
    have hN2 : Cls N2 s T a P kp S tt g z := Cls_s hw hN (fun b j h1 h2 h3 h4 h5 => hf2 b j h4 h5)
    have hF : frC M N2 s := frC_t (fr_seeN hf) (fun b j h => hf2 b j (by omega) (by omega))
    refine ⟨fun q => ?_, fun q => vRS_look_77 (kk N2 _ ⟨by omega, by omega, fun _ => he, fun c => by omega, by omega, by omega⟩ hN2 hF)⟩
    have hT2 : NT N2 (s + 35) T := NT_fr hT (fun b j b0 b1 b2 b3 => hf2 b j b2 b3)
    have ht := htr (e - 1) (by have := he.1; omega) (by omega)
    refine qNodes_placeOf hw.1 hT2 ub.1 ub.2 he.1 e17 ?_ (vRS_look_77 (kk N2 _ ⟨by omega, by omega, fun c => absurd c q, fun _ => ⟨e, he, rfl⟩, by omega, by omega⟩ hN2 hF))
    rw [hf2 (s + 35 + 12) _ (by omega) (by omega), hf2 (s + 35 + 12) _ (by omega) (by omega), hf2 (s + 35 + 1) _ (by omega) (by omega)]
    exact ht
  refine vRS_look_0 (qRS_unsigned (vRS_look_4 ⟨fun q => rules (Or.inl q), fun q0 => ⟨fun q => rules (Or.inr (Or.inl q)), fun q1 => ⟨fun q4 => ⟨fun q => nodes (Or.inl q), fun q2 => ⟨fun q => nodes (Or.inr q), fun q3 => kk M _ ⟨by omega, by omega, by omega, by omega, by omega, fun _ => rfl⟩ hC frC_r⟩⟩, fun q => rules (by omega)⟩⟩⟩))
theorem aMo_look {u w x : Int} (hw : Wf T a P kp S) (hR : Ref M r T a P kp S tt g z) (h : spLook T (uns u) w x) (kk : ∀ N : xM, Ref N r T a P kp S tt g z → frR M N r → Q (xI x) N) : Ru (d + 100) kMo_look 0 [xO 9 r, xI u, xI w, xU, xU] [] M Q := by
  have ub := uns_in u
  obtain ⟨e0, e1, e2, e3, e4, e5⟩ := h
  have hq := kk M hR frR_r
  refine vMo_look_0 (qMo_unsigned (vMo_look_4 ⟨fun q => ?_, fun q0 => ⟨fun q => ?_, fun q1 => ⟨fun q => ?_, fun q2 => ⟨fun q => ?_, fun q3 => ⟨fun q => ?_, fun q4 => qe hq (e5 (by omega)).symm⟩⟩⟩⟩⟩))
  · exact qMo_hopAt hw.1 (RN_of.mp hR.1) hR.2.1.1 ub.1 ub.2 (vMo_look_45 (qe hq (e0 q).symm))
  · exact qMo_ruleOf hw.1 hR.1 (by decide) (by decide) (by decide) (vMo_look_56 (qe hq (e1 q).symm))
  · exact qMo_through hw.1 hR.2.1 ub.1 ub.2 (fun e he => vMo_look_62 (qe hq (isThr_u he (e2 q))))
  · refine qMo_storedPlace hw.1 hR.2.1 ub.1 ub.2 (fun N e he hf => vMo_look_68 (qe (kk N (Ref_fr hw.1 hR (fun b j h => by unfold rOk at h; exact hf b j (by omega) (by omega))) (fun b j h => hf b j (by omega) (by omega))) ?_))
    obtain ⟨e', he', hx⟩ := e3 q
    rw [hx, isThr_u he' he]
    rfl
  · refine qMo_hopWithout hw.1 hR.1 (fun c => vMo_look_74 (qe hq ?_)) (fun o c ho _ => vMo_look_74 (qe hq ?_))
    · rw [e4 q]; exact (if_pos c).symm
    · rw [e4 q, ho]; unfold lk4; rw [if_neg (show ¬ rl T (uns u) = -1 by omega)]
theorem bo_look (u w : Int) : Bo kRS_look [xO 8 0, xI u, xI w, xU, xU, xU] kMo_look [xO 9 198, xI u, xI w, xU, xU] xI :=
  bo_q (fun σ x => spLook σ.1 (uns u) w x) (fun _ _ _ _ _ _ _ _ _ _ _ hw hC kk => aRS_look hw hC kk) (fun _ _ _ _ _ _ _ _ _ _ _ _ hw hR h kk => aMo_look hw hR h kk)
/-! path -/
def spPath (T : TB) (b i x : Int) : Prop := (i < 0 → x = -1) ∧ (0 ≤ i → ∃ e : Int, isThr T b e ∧ (e ≤ i → x = -2) ∧ (i < e → ∃ (n : Int) (lf vl lv : Int → Int), isNum T n lf vl lv ∧ (lf i ≤ x ∧ x < lf (i + 1)) ∧ vl x = b - b % wd (tB (tS T) i.toNat)))
theorem aRS_path {u i : Int} (hw : Wf T a P kp S) (hC : Cls M s T a P kp S tt g z) (kk : ∀ (N : xM) (x : Int), spPath T (uns u) i x → Cls N s T a P kp S tt g z → frC M N s → Q (xI x) N) : Ru (d + 100) kRS_path 0 [xO 8 s, xI u, xI i, xU] [] M Q := by
  have ub := uns_in u
  have hZ := hw.1.2.2.2.2.2.1
  refine vRS_path_0 ⟨fun i0 => ?_, fun y => kk M _ ⟨fun _ => rfl, fun h => absurd h y⟩ hC frC_r⟩
  refine qRS_seeNodes hw hC (fun N hN hT _ hf => vRS_path_10 (qRS_unsigned (vRS_path_18 (qNodes_goTo hw.1 hT ub.1 ub.2 (fun N2 e he e17 htr hf2 => vRS_path_21 ?_)))))
  have hN2 : Cls N2 s T a P kp S tt g z := Cls_s hw hN (fun b j h1 h2 h3 h4 h5 => hf2 b j h4 h5)
  have hF : frC M N2 s := frC_t (fr_seeN hf) (fun b j h => hf2 b j (by omega) (by omega))
  have eb := he.1
  refine ⟨fun y => kk N2 _ ⟨by omega, fun _ => ⟨e, he, fun _ => rfl, fun h => by omega⟩⟩ hN2 hF, fun y => ⟨by omega, kk N2 _ ⟨by omega, fun _ => ⟨e, he, fun h => absurd h y, fun _ => ⟨_, _, _, _, NT_num hT, ?_⟩⟩⟩ hN2 hF⟩⟩
  have ht := htr i i0 (by omega)
  exact ⟨⟨ht.1, ht.2.1⟩, ht.2.2⟩
theorem aMo_path {u i x : Int} (hw : Wf T a P kp S) (hR : Ref M r T a P kp S tt g z) (h : spPath T (uns u) i x) (kk : ∀ N : xM, Ref N r T a P kp S tt g z → frR M N r → Q (xI x) N) : Ru (d + 100) kMo_path 0 [xO 9 r, xI u, xI i] [] M Q := by
  have ub := uns_in u
  have hq := kk M hR frR_r
  refine vMo_path_0 ⟨fun i0 => qMo_unsigned (vMo_path_12 (qMo_through hw.1 hR.2.1 ub.1 ub.2 (fun e he => vMo_path_15 ?_))), fun y => qe hq (h.1 (by omega)).symm⟩
  obtain ⟨e', he', e0, e1⟩ := h.2 i0
  have ee := isThr_u he' he
  subst ee
  have eb := he.1
  refine ⟨fun y => qe hq (e0 y).symm, fun y => qMo_unsigned (vMo_path_24 ?_)⟩
  obtain ⟨n, lf, vl, lv, hnum, hx, hv⟩ := e1 (by omega)
  have hnR := RL_num hw.1 hR.2.1
  obtain ⟨es, el, ev⟩ := num_u hw.1 hnum hnR
  have l0 := el i i0 (by omega)
  have l1 := el (i + 1) (by omega) (by omega)
  have xb := num_bd hnum (num_nd hw.1 hnum i0 (show i < tZ T by omega) hx.1 hx.2)
  have vx := (ev x xb.1 xb.2).1
  refine qMo_nodeAt hw.1 hR.2.1 i0 (by omega) ub.1 ub.2 (fun m m0 m1 hm => vMo_path_27 (qe hq ?_)) (fun hno => absurd (by rw [← vx]; exact hv) (hno x (by rw [← l0]; exact hx.1) (by rw [← l1]; exact hx.2)))
  exact num_inj hnR i0 (by omega) m0 m1 (by rw [← l0]; exact hx.1) (by rw [← l1]; exact hx.2) (by rw [hm, ← vx, hv])
theorem bo_path (u i : Int) : Bo kRS_path [xO 8 0, xI u, xI i, xU] kMo_path [xO 9 198, xI u, xI i] xI :=
  bo_q (fun σ x => spPath σ.1 (uns u) i x) (fun _ _ _ _ _ _ _ _ _ _ _ hw hC kk => aRS_path hw hC kk) (fun _ _ _ _ _ _ _ _ _ _ _ _ hw hR h kk => aMo_path hw hR h kk)
end Asks4

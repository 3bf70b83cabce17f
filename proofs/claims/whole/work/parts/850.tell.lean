/-! CALLS THAT CHANGE: tell. -/
section Tell
variable {d : Nat} {M N : xM} {Q : xQ} {s r t : Int} {T T2 : TB} {a a2 : Int} {P : Int → TB} {kp : Int} {S : Int → TB} {tt : Int} {g g2 : Int → Int} {z z2 : Int}
noncomputable abbrev txX (g : Int → Int) (z : Int) : Int × List (Int × Int × Int) × Int × (Int → Int) := txP g z 401 0 [] 0 (fun _ => 0)
def isTl (g : Int → Int) (z : Int) (T2 : TB) : Prop := (txX g z).1 = 0 ∧ ∃ T0 : TB, isPs E0 (txX g z).2.1 T0 ∧ T2 = wS T0 (Zc (txX g z).2.2.1) (Sc (txX g z).2.2.1 (txX g z).2.2.2)
theorem Tl_ok (hg : gOK g z) (h : (txX g z).1 = 0) : ((∀ x, x ∈ (txX g z).2.1 → vOK x) ∧ ((txX g z).2.1.length : Int) ≤ 57) ∧ ((txX g z).2.2.1 = 0 ∨ okS (txX g z).2.2.1 (txX g z).2.2.2) :=
  txP_ok hg 401 0 [] 0 (fun _ => 0) (Int.le_refl _) hg.1.1 (by decide) (fun x hx => absurd hx (by simp)) (Or.inl rfl) h
theorem Tl_wf (hg : gOK g z) (h : isTl g z T2) : tWF T2 := by
  obtain ⟨h1, T0, h2, e⟩ := h
  obtain ⟨⟨o1, o2⟩, o3⟩ := Tl_ok hg h1
  rw [e]
  exact wS_wf (ps_wf E0_wf o1 h2).1 (okZS o3)
theorem aRS_tell (hw : Wf T a P kp S) (hC : Cls M s T a P kp S tt g z) (h0 : ∀ N : xM, ¬ (txX g z).1 = 0 → Cls N s T a P kp S tt (cutG g 0) 0 → frC M N s → Q (xI (z32 (-2 - (txX g z).1))) N) (h1 : ∀ (N : xM) (T2 : TB), isTl g z T2 → Cls N s T2 0 P kp S 0 (cutG g 0) 0 → frC M N s → Q (xI (tN T2)) N) : Ru (d + 100) kRS_tell 0 [xO 8 s, xU] [] M Q := by
  have hT := hC.2.2.2.2.2.1
  refine vRS_tell_0 (qTape_readInto (by omega) hT (fun N hr hf => vRS_tell_11 ?_))
  have hf1 : ∀ b j : Int, ¬ b = s + 1 → ¬ (s + 10 ≤ b ∧ b ≤ s + 16) → up N (s + 1) 0 0 b j = M b j := fun b j q1 q2 => by
    rw [up_un (by omega)]; exact hf b j (by omega) (by omega)
  have hTc : TG (up N (s + 1) 0 0) (s + 1) (cutG g 0) 0 := TG_cut hT (Int.le_refl _) hT.1.1.1 (up_at rfl rfl) (fun j => hf1 _ _ (by omega) (by omega))
  refine ⟨fun y => ?_, fun y => h0 _ y (Cls_tape hw (N := up N (s + 1) 0 0) (Cls_s (N := fun b j => if b = s + 1 then M b j else up N (s + 1) 0 0 b j) hw hC (fun b j q1 q2 q3 q4 q5 => ?_)) hTc (fun b j b0 b1 b2 b3 => ?_)) (fun b j h => hf1 b j (by omega) (by omega))⟩
  · obtain ⟨T0, hps, hc⟩ := hr y
    have hTl : isTl g z (wS T0 (Zc (txX g z).2.2.1) (Sc (txX g z).2.2.1 (txX g z).2.2.2)) := ⟨y, T0, hps, rfl⟩
    have hw2 := Tl_wf hT.1 hTl
    obtain ⟨T2, hT2⟩ : ∃ T2 : TB, T2 = wS T0 (Zc (txX g z).2.2.1) (Sc (txX g z).2.2.1 (txX g z).2.2.2) := ⟨_, rfl⟩
    rw [← hT2] at hTl hw2
    have hc2 : CT N (s + 10) T2 := by rw [hT2]; exact hc
    have hn := hw2.1
    have hZ := hw2.2.2.2.2.2.1
    refine qTable_copyFrom (by omega) (fun N2 hcp hf2 => vRS_tell_40 (vRS_forgetActs_0 (vRS_tell_44 ?_)))
    have hcN := hcp T2 (by omega) (by omega) (CT_fr hc2 (fun b j b0 b1 => up_un (by omega)))
    have hf3 : ∀ b j : Int, ¬ (b = s ∧ (j = 5 ∨ j = 7 ∨ j = 8)) → ¬ (s + 3 ≤ b ∧ b ≤ s + 9) → up (up (up N2 s 5 0) s 7 0) s 8 0 b j = up N (s + 1) 0 0 b j := fun b j q1 q2 => by
      rw [up_un (by omega), up_un (by omega), up_un (by omega)]; exact hf2 b j (by omega)
    have hcU : CT (up (up (up N2 s 5 0) s 7 0) s 8 0) (s + 3) T2 := CT_fr hcN (fun b j b0 b1 => by rw [up_un (by omega), up_un (by omega), up_un (by omega)])
    rw [hcU.1]
    exact h1 _ T2 hTl (Cls_new hw hC hcU (by rw [up_un (by omega), up_un (by omega), up_at rfl rfl]) (Int.le_refl _) hw.2.1.1 (by rw [up_un (by omega), up_at rfl rfl]) (up_at rfl rfl) (TG_fr hTc (hf3 _ _ (by omega) (by omega)) (fun j => hf3 _ _ (by omega) (by omega))) (fun b j b0 b1 b2 b3 => by rw [hf3 b j b2 (by omega)]; exact hf1 b j (by omega) (by omega))) (fun b j h => by rw [hf3 b j (by omega) (by omega)]; exact hf1 b j (by omega) (by omega))
  · show (if b = s + 1 then M b j else up N (s + 1) 0 0 b j) = M b j
    by_cases c : b = s + 1
    · rw [if_pos c]
    · rw [if_neg c]; exact hf1 b j c (by omega)
  · show up N (s + 1) 0 0 b j = if b = s + 1 then M b j else up N (s + 1) 0 0 b j
    rw [if_neg b2]
theorem wS_E0 {F : Int → Int} : wS E0 (Zc 0) (Sc 0 F) = E0 := rfl
theorem aMo_tell (hw : Wf T a P kp S) (hR : Ref M r T a P kp S tt g z) (h0 : ∀ N : xM, ¬ (txX g z).1 = 0 → Ref N r T a P kp S tt (cutG g 0) 0 → frR M N r → Q (xI (z32 (-2 - (txX g z).1))) N) (h1 : ∀ (N : xM) (T2 : TB), isTl g z T2 → Ref N r T2 0 P kp S 0 (cutG g 0) 0 → frR M N r → Q (xI (tN T2)) N) : Ru (d + 100) kMo_tell 0 [xO 9 r, xU, xU, xU] [] M Q := by
  have hG := hR.2.2.2.2.2.2
  refine vMo_tell_0 (qMo_readsText hG (fun N y e40 ear e32 e21 hf => vMo_tell_4 ⟨fun _ => ?_, fun q => absurd (by decide) q⟩) (fun N y e37 hf => vMo_tell_4 ⟨fun q => absurd rfl q, fun _ => ?_⟩))
  · obtain ⟨⟨o1, o2⟩, o3⟩ := Tl_ok hG.1 y
    have hfN : ∀ b j : Int, ¬ (b = r ∧ (j = 32 ∨ (35 ≤ j ∧ j ≤ 40))) → ¬ b = r + 21 → ¬ (r + 23 ≤ b ∧ b ≤ r + 25) → up N r 35 0 b j = M b j := fun b j q1 q2 q3 => by
      rw [up_un (by omega)]; exact hf b j (by omega) q2 q3
    refine qMo_startsAnew (fun N1 hc1 hf1 => vMo_tell_26 ?_)
    -- behind the strides
    have go : ∀ (N2 : xM) (x1 : Int), RN N2 (r + 1) (wS E0 (Zc (txX g z).2.2.1) (Sc (txX g z).2.2.1 (txX g z).2.2.2)) (tK (wS E0 (Zc (txX g z).2.2.1) (Sc (txX g z).2.2.1 (txX g z).2.2.2))) → (∀ b j : Int, ¬ b = r + 1 → N2 b j = N1 b j) → Ru (d + 100) kMo_tell 37 [xO 9 r, xI x1, xU, xU] [] N2 Q := by
      intro N2 x1 hc2 hf2
      have hwE := wS_wf E0_wf (okZS o3)
      refine vMo_tell_37 (qMo_tellL (d := d + 96) o2 (txX g z).2.1 0 _ N2 _ (Int.le_refl _) (by omega) ?_ ?_ hwE o1 ?_ hc2 (fun N3 T3 w3 hps hc3 hf3 => ?_))
      · rw [hf2 _ _ (by omega), hf1 _ _ (by omega), up_un (by omega)]; exact e40
      · show (0 : Int) + _ ≤ 60
        omega
      · exact arrL_fr _ _ ear (fun j _ _ => ⟨by rw [hf2 _ _ (by omega), hf1 _ _ (by omega), up_un (by omega)], by rw [hf2 _ _ (by omega), hf1 _ _ (by omega), up_un (by omega)], by rw [hf2 _ _ (by omega), hf1 _ _ (by omega), up_un (by omega)]⟩)
      · have e403 : N3 r 40 = ((txX g z).2.1.length : Int) := by rw [hf3 _ _ (by omega), hf2 _ _ (by omega), hf1 _ _ (by omega), up_un (by omega)]; exact e40
        refine vMo_tell_39 ?_
        rw [e403]
        refine ⟨fun _ => ?_, fun y2 => absurd (Int.le_refl _) y2⟩
        have hw3 := (ps_wf hwE o1 hps).1
        have hr3 : RT (up N3 r 2 0) (r + 1) 0 T3 := RT_fr (RN_of.mpr hc3) (fun j => up_un (by omega))
        obtain ⟨T0, hps0⟩ : ∃ T0 : TB, isPs E0 (txX g z).2.1 T0 := ⟨wS T3 8 (fun _ => 4), ps_wS (Z := 8) (S := fun _ => 4) hps⟩
        have eT : T3 = wS T0 (Zc (txX g z).2.2.1) (Sc (txX g z).2.2.1 (txX g z).2.2.2) := ps_u hwE o1 hps (ps_wS hps0)
        have hTl : isTl g z T3 := ⟨y, T0, hps0, eT⟩
        refine qMo_isLaidAnew hw3 hr3 (fun N4 k1 k2 k3 k4 hf4 => vMo_tell_85 ⟨by decide, ?_⟩)
        have hfa : ∀ b j : Int, ¬ chD r b j → ¬ b = r + 1 → ¬ (b = r ∧ j = 2) → N4 b j = up N r 35 0 b j := fun b j q1 q2 q3 => by
          rw [hf4 b j q1, up_un (by omega), hf3 b j q2, hf2 b j q2]; exact hf1 b j q2
        rw [k1.1]
        refine h1 N4 T3 hTl (Ref_new hR k1 k2 k3 (by rw [hf4 _ _ (by unfold chD; omega)]; exact up_at rfl rfl) hw.2.1.1 k4 (RG_cut hG (Int.le_refl _) hG.1.1.1 ?_ (fun j => ?_)) (fun b j b0 b1 => ?_)) (fun b j h => ?_)
        · rw [hfa _ _ (by unfold chD; omega) (by omega) (by omega)]; exact up_at rfl rfl
        · rw [hfa _ _ (by unfold chD; omega) (by omega) (by omega)]; exact hfN _ _ (by omega) (by omega) (by omega)
        · rw [hfa b j (by unfold chD; omega) (by omega) (by omega)]; exact hfN b j (by omega) (by omega) (by omega)
        · rw [hfa b j (chD_fr h) (by omega) (by omega)]; exact hfN b j (by omega) (by omega) (by omega)
    have e32' : N1 r 32 = (txX g z).2.2.1 := by rw [hf1 _ _ (by omega), up_un (by omega)]; exact e32
    rw [e32']
    refine ⟨fun y2 => ?_, fun y2 => ?_⟩
    · have c0 : (txX g z).2.2.1 = 0 := by
        rcases o3 with c | c
        · exact c
        · have := c.1.1; omega
      refine go N1 _ ?_ (fun _ _ _ => rfl)
      rw [c0, wS_E0]
      exact hc1
    · have ok : okS (txX g z).2.2.1 (txX g z).2.2.2 := by
        rcases o3 with c | c
        · omega
        · exact c
      have zc : Zc (txX g z).2.2.1 = (txX g z).2.2.1 := if_neg (by have := ok.1.1; omega)
      have sc : Sc (txX g z).2.2.1 (txX g z).2.2.2 = (txX g z).2.2.2 := if_neg (by have := ok.1.1; omega)
      refine qMo_takesStrides (S := (txX g z).2.2.2) hc1 (by decide) e32' ok.1.1 ok.1.2 (fun i i0 i1 => by rw [hf1 _ _ (by omega), up_un (by omega)]; exact e21 i i0 i1) (fun N2 hc2 hf2 => go N2 _ ?_ hf2)
      rw [zc, sc]
      exact hc2
  · have e37' : up N r 35 0 r 37 = (txX g z).1 := by rw [up_un (by omega)]; exact e37
    rw [e37']
    have hf1 : ∀ b j : Int, ¬ (b = r ∧ (j = 32 ∨ (35 ≤ j ∧ j ≤ 40))) → ¬ b = r + 21 → ¬ (r + 23 ≤ b ∧ b ≤ r + 25) → up N r 35 0 b j = M b j := fun b j q1 q2 q3 => by
      rw [up_un (by omega)]; exact hf b j (by omega) q2 q3
    have hRN : Ref N r T a P kp S tt g z := Ref_fr hw.1 hR (fun b j h => by unfold rOk at h; exact hf b j (by omega) (by omega) (by omega))
    exact h0 _ y (Ref_tape hRN hw.1 (RG_cut hRN.2.2.2.2.2.2 (Int.le_refl _) hG.1.1.1 (up_at rfl rfl) (fun j => up_un (by omega))) (fun b j q1 q2 => up_un (by omega))) (fun b j h => hf1 b j (by omega) (by omega) (by omega))
theorem Tl_u {A B : TB} (hg : gOK g z) (h : isTl g z A) (h2 : isTl g z B) : A = B := by
  obtain ⟨y, T0, p0, e0⟩ := h
  obtain ⟨-, T1, p1, e1⟩ := h2
  obtain ⟨⟨o1, o2⟩, o3⟩ := Tl_ok hg y
  rw [e0, e1, ps_u E0_wf o1 p0 p1]
theorem bo_tell : Bo kRS_tell [xO 8 0, xU] kMo_tell [xO 9 198, xU, xU, xU] xI := by
  refine bo_mk (fun σ x σ2 => (¬ (txX σ.2.2.2.2.2.2.1 σ.2.2.2.2.2.2.2).1 = 0 ∧ x = z32 (-2 - (txX σ.2.2.2.2.2.2.1 σ.2.2.2.2.2.2.2).1) ∧ σ2 = (σ.1, σ.2.1, σ.2.2.1, σ.2.2.2.1, σ.2.2.2.2.1, σ.2.2.2.2.2.1, cutG σ.2.2.2.2.2.2.1 0, 0)) ∨ ∃ T2 : TB, isTl σ.2.2.2.2.2.2.1 σ.2.2.2.2.2.2.2 T2 ∧ x = tN T2 ∧ σ2 = (T2, 0, σ.2.2.1, σ.2.2.2.1, σ.2.2.2.2.1, 0, cutG σ.2.2.2.2.2.2.1 0, 0)) ?_ ?_
  · rintro d M Q ⟨T, a, P, kp, S, tt, g, z⟩ hw hC k
    have hw' : Wf T a P kp S := hw
    have hC' : Cls M 0 T a P kp S tt g z := hC
    refine aRS_tell (T := T) (a := a) (P := P) (kp := kp) (S := S) (tt := tt) (g := g) (z := z) hw hC (fun N y hN hF => k N _ (T, a, P, kp, S, tt, cutG g 0, 0) (Or.inl ⟨y, rfl, rfl⟩) hw hN hF) (fun N T2 hT hN hF => k N _ (T2, 0, P, kp, S, 0, cutG g 0, 0) (Or.inr ⟨T2, hT, rfl, rfl⟩) ⟨Tl_wf hC'.2.2.2.2.2.1.1 hT, ⟨Int.le_refl _, by show (0 : Int) ≤ 10; decide⟩, fun i i0 i1 => absurd i1 (by show ¬ i < 0; omega), hw'.2.2.2.1, hw'.2.2.2.2⟩ hN hF)
  · rintro d M Q ⟨T, a, P, kp, S, tt, g, z⟩ x σ2 hw hw2 hR ha k
    have hR' : Ref M 198 T a P kp S tt g z := hR
    refine aMo_tell (T := T) (a := a) (P := P) (kp := kp) (S := S) (tt := tt) (g := g) (z := z) hw hR (fun N y hN hF => ?_) (fun N T2 hT hN hF => ?_)
    · rcases ha with ⟨c, hx, hs⟩ | ⟨T3, hT3, hx, hs⟩
      · exact qe (k N (by rw [hs]; exact hN) hF) hx.symm
      · exact absurd hT3.1 y
    · rcases ha with ⟨c, hx, hs⟩ | ⟨T3, hT3, hx, hs⟩
      · exact absurd hT.1 c
      · have e : T2 = T3 := Tl_u hR'.2.2.2.2.2.2.1 hT hT3
        subst e
        exact qe (k N (by rw [hs]; exact hN) hF) hx.symm
end Tell

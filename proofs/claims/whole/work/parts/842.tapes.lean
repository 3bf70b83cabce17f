/-! CALLS THAT CHANGE: feed, end, undo, keep, back. -/
section Chg
variable {d : Nat} {M N : xM} {Q : xQ} {s r : Int} {T T2 : TB} {a a2 : Int} {P : Int → TB} {kp : Int} {S : Int → TB} {tt : Int} {g g2 : Int → Int} {z z2 : Int}
theorem fixd_f2 (h : fixd M s) (e : ∀ b j : Int, s + 35 ≤ b → b ≤ s + 110 → N b j = M b j) : fixd N s := by
  refine ⟨⟨?_, ?_, ?_, ?_⟩, fun j j0 j1 => ?_⟩
  · rw [e _ _ (by omega) (by omega)]; exact h.1.1
  · rw [e _ _ (by omega) (by omega)]; exact h.1.2.1
  · rw [e _ _ (by omega) (by omega)]; exact h.1.2.2.1
  · rw [e _ _ (by omega) (by omega)]; exact h.1.2.2.2
  · rw [e _ _ (by omega) (by omega)]; exact h.2 j j0 j1
theorem Cls_tape (hw : Wf T a P kp S) (h : Cls M s T a P kp S tt g z) (hg : TG N (s + 1) g2 z2) (e : ∀ b j : Int, s ≤ b → b ≤ s + 197 → ¬ b = s + 1 → ¬ b = s + 1 + 1 → N b j = M b j) : Cls N s T a P kp S tt g2 z2 := by
  obtain ⟨h1, ⟨h2, ⟨p1, p2⟩, h3⟩, ⟨⟨h4, h4', h4''⟩, h5⟩, h6, h7, h8, h9⟩ := h
  have e17 : ∀ j : Int, N (s + 17) j = M (s + 17) j := fun j => e _ _ (by omega) (by omega) (by omega) (by omega)
  refine ⟨CT_fr h1 (fun b j b0 b1 => e b j (by omega) (by omega) (by omega) (by omega)), ⟨by rw [e _ _ (by omega) (by omega) (by omega) (by omega)]; exact h2, ⟨fun i i0 i1 => by rw [e17]; exact p1 i i0 i1, fun i j i0 ij j1 => by rw [e17, e17]; exact p2 i j i0 ij j1⟩, fun i i0 i1 => ?_⟩, ⟨⟨by rw [e _ _ (by omega) (by omega) (by omega) (by omega)]; exact h4, by rw [e _ _ (by omega) (by omega) (by omega) (by omega)]; exact h4', by rw [e _ _ (by omega) (by omega) (by omega) (by omega)]; exact h4''⟩, fun i i0 i1 q => CT_fr (h5 i i0 i1 q) (fun b j b0 b1 => e b j (by omega) (by omega) (by omega) (by omega))⟩, ?_, KN_fr h7 (e _ _ (by omega) (by omega) (by omega) (by omega)) (fun b j b0 b1 _ _ _ _ => e b j (by omega) (by omega) (by omega) (by omega)) (fun j _ => e _ _ (by omega) (by omega) (by omega) (by omega)), hg, fixd_f2 h9 (fun b j b0 b1 => e b j (by omega) (by omega) (by omega) (by omega))⟩
  · rw [e17]
    obtain ⟨j, j0, j1⟩ := p1 i i0 (by have := hw.2.1; omega)
    exact CT_fr (h3 i i0 i1) (fun b j b0 b1 => e b j (by omega) (by omega) (by omega) (by omega))
  · rw [e _ _ (by omega) (by omega) (by omega) (by omega)]
    exact h6
theorem Cls_new (hw : Wf T a P kp S) (h : Cls M s T a P kp S tt g z) (hc : CT N (s + 3) T2) (e5 : N s 5 = a2) (a20 : 0 ≤ a2) (a21 : a2 ≤ a) (e7 : N s 7 = 0) (e8 : N s 8 = 0) (hg : TG N (s + 1) g2 z2) (e : ∀ b j : Int, s ≤ b → b ≤ s + 197 → ¬ (b = s ∧ (j = 5 ∨ j = 7 ∨ j = 8)) → ¬ (s + 1 ≤ b ∧ b ≤ s + 16) → N b j = M b j) : Cls N s T2 a2 P kp S 0 g2 z2 := by
  obtain ⟨h1, ⟨h2, ⟨p1, p2⟩, h3⟩, ⟨⟨h4, h4', h4''⟩, h5⟩, h6, h7, h8, h9⟩ := h
  have e17 : ∀ j : Int, N (s + 17) j = M (s + 17) j := fun j => e _ _ (by omega) (by omega) (by omega) (by omega)
  refine ⟨hc, ⟨e5, ⟨fun i i0 i1 => by rw [e17]; exact p1 i i0 i1, fun i j i0 ij j1 => by rw [e17, e17]; exact p2 i j i0 ij j1⟩, fun i i0 i1 => ?_⟩, ⟨⟨by rw [e _ _ (by omega) (by omega) (by omega) (by omega)]; exact h4, by rw [e _ _ (by omega) (by omega) (by omega) (by omega)]; exact h4', by rw [e _ _ (by omega) (by omega) (by omega) (by omega)]; exact h4''⟩, fun i i0 i1 q => CT_fr (h5 i i0 i1 q) (fun b j b0 b1 => e b j (by omega) (by omega) (by omega) (by omega))⟩, ⟨Int.le_refl _, Or.inl e7⟩, KN_0 e8, hg, fixd_f2 h9 (fun b j b0 b1 => e b j (by omega) (by omega) (by omega) (by omega))⟩
  rw [e17]
  obtain ⟨j, j0, j1⟩ := p1 i i0 (by have := hw.2.1; omega)
  exact CT_fr (h3 i i0 (by omega)) (fun b j b0 b1 => e b j (by omega) (by omega) (by omega) (by omega))
theorem Ref_tape (h : Ref M r T a P kp S tt g z) (hw : tWF T) (hg : RG N r g2 z2) (e : ∀ b j : Int, ¬ (b = r ∧ j = 35) → ¬ b = r + 22 → N b j = M b j) : Ref N r T a P kp S tt g2 z2 := by
  obtain ⟨h1, h2, h3, h4, h5, h6, h7⟩ := h
  have e14 : N (r + 14) = M (r + 14) := funext fun j => e _ _ (by omega) (by omega)
  have e15 : N (r + 15) = M (r + 15) := funext fun j => e _ _ (by omega) (by omega)
  have e26 : N (r + 26) = M (r + 26) := funext fun j => e _ _ (by omega) (by omega)
  refine ⟨RT_fr h1 (fun j => e _ _ (by omega) (by omega)), RL_fr h2 (fun b j b0 b1 => e b j (by omega) (by omega)) (e _ _ (by omega) (by omega)), ?_, ⟨by rw [e _ _ (by omega) (by omega)]; exact h4.1, fun i i0 i1 => RT_fr (h4.2 i i0 i1) (fun j => e _ _ (by omega) (by omega))⟩, fun i i0 i1 => ⟨by rw [e _ _ (by omega) (by omega)]; exact (h5 i i0 i1).1, fun q => RT_fr ((h5 i i0 i1).2 q) (fun j => e _ _ (by omega) (by omega))⟩, by rw [e _ _ (by omega) (by omega)]; exact h6, hg⟩
  rw [e14, e15, e26, e _ _ (by omega) (by omega)]
  exact h3
theorem Ref_new (h : Ref M r T a P kp S tt g z) (h1 : RT N (r + 1) 0 T2) (h2 : RL N r T2) (h19 : N r 19 = 0) (e2 : N r 2 = a2) (a21 : a2 ≤ a) (e5 : N r 5 = 0) (hg : RG N r g2 z2) (e : ∀ b j : Int, r + 2 ≤ b → b ≤ r + 4 → N b j = M b j) : Ref N r T2 a2 P kp S 0 g2 z2 := by
  obtain ⟨-, -, -, h4, h5, -, -⟩ := h
  exact ⟨h1, h2, Or.inl h19, ⟨e2, fun i i0 i1 => RT_fr (h4.2 i i0 (by omega)) (fun j => e _ _ (by omega) (by omega))⟩, fun i i0 i1 => ⟨by rw [e _ _ (by omega) (by omega)]; exact (h5 i i0 i1).1, fun q => RT_fr ((h5 i i0 i1).2 q) (fun j => e _ _ (by omega) (by omega))⟩, e5, hg⟩
theorem qMo_isLaidAnew (hw : tWF T2) (h1 : RT M (r + 1) 0 T2) (k : ∀ N : xM, RT N (r + 1) 0 T2 → RL N r T2 → N r 19 = 0 → N r 5 = 0 → (∀ b j : Int, ¬ chD r b j → N b j = M b j) → Q xU N) : Ru (d + 10) kMo_isLaidAnew 0 [xO 9 r] [] M Q := by
  refine vMo_isLaidAnew_0 (qMo_laysTable hw h1 (by decide) (by decide) (by decide) (Or.inl rfl) (by omega) (by omega) (fun N hW hn hf => vMo_isLaidAnew_10 ?_))
  obtain ⟨hNS, h19⟩ := hn rfl
  have hfb : ∀ b j : Int, ¬ chD r b j → up N r 5 0 b j = M b j := fun b j q => by
    rw [up_un (by unfold chD at q; omega)]; exact hf b j (chT_chD q)
  exact k _ (RT_fr h1 (fun j => hfb _ _ (by unfold chD; omega))) (RL_fr ⟨hW, hNS⟩ (fun b j b0 b1 => up_un (by omega)) (up_un (by omega))) (by rw [up_un (by omega)]; exact h19) (up_at rfl rfl) hfb
/-! end -/
def cutG (g : Int → Int) (n : Int) : Int → Int := fun j => if j < n then g j else -1
theorem cut_lt {n j : Int} (h : j < n) : cutG g n j = g j := if_pos h
theorem cut_OK {n : Int} (h : gOK g z) (n0 : 0 ≤ n) (n1 : n ≤ z) : gOK (cutG g n) n := by
  obtain ⟨h1, h2, h3⟩ := h
  refine ⟨⟨n0, by omega⟩, fun j hj => if_neg (by omega), fun j j0 j1 => ?_⟩
  rw [cut_lt j1]
  exact h3 j j0 (by omega)
theorem TG_cut {n : Int} (h : TG M s g z) (n0 : 0 ≤ n) (n1 : n ≤ z) (e0 : N s 0 = n) (e : ∀ j : Int, N (s + 1) j = M (s + 1) j) : TG N s (cutG g n) n :=
  ⟨cut_OK h.1 n0 n1, e0, fun j j0 j1 => by rw [e, cut_lt j1]; exact h.2.2 j j0 (by omega)⟩
theorem RG_cut {n : Int} (h : RG M r g z) (n0 : 0 ≤ n) (n1 : n ≤ z) (e0 : N r 35 = n) (e : ∀ j : Int, N (r + 22) j = M (r + 22) j) : RG N r (cutG g n) n :=
  ⟨cut_OK h.1 n0 n1, e0, fun j j0 j1 => by rw [e, cut_lt j1]; exact h.2.2 j j0 (by omega)⟩
theorem bo_end (n : Int) : Bo kRS_end [xO 8 0, xI n] kMo_end [xO 9 198, xI n] xI := by
  refine bo_mk (fun σ x σ2 => (¬ (0 ≤ n ∧ n ≤ σ.2.2.2.2.2.2.2) ∧ x = -1 ∧ σ2 = σ) ∨ ((0 ≤ n ∧ n ≤ σ.2.2.2.2.2.2.2) ∧ x = n ∧ σ2 = (σ.1, σ.2.1, σ.2.2.1, σ.2.2.2.1, σ.2.2.2.2.1, σ.2.2.2.2.2.1, cutG σ.2.2.2.2.2.2.1 n, n))) ?_ ?_
  · rintro d M Q ⟨T, a, P, kp, S, tt, g, z⟩ hw hC k
    have hT : TG M (0 + 1) g z := hC.2.2.2.2.2.1
    refine vRS_end_0 ?_
    rw [hT.2.1]
    refine ⟨fun y => k M _ _ (Or.inl ⟨fun c => absurd c.1 (by omega), rfl, rfl⟩) hw hC frC_r, fun y => ⟨fun y2 => k _ _ _ (Or.inr ⟨⟨by omega, y2⟩, rfl, rfl⟩) hw ?_ (fun b j h => up_un (by omega)), fun y2 => k M _ _ (Or.inl ⟨fun c => absurd c.2 y2, rfl, rfl⟩) hw hC frC_r⟩⟩
    exact Cls_tape hw hC (TG_cut hT (by omega) y2 (up_at rfl rfl) (fun j => up_un (by omega))) (fun b j b0 b1 b2 b3 => up_un (by omega))
  · rintro d M Q ⟨T, a, P, kp, S, tt, g, z⟩ x σ2 hw hw2 hR ha k
    have hG : RG M 198 g z := hR.2.2.2.2.2.2
    refine vMo_end_0 ?_
    rw [hG.2.1]
    rcases ha with ⟨c, hx, hs⟩ | ⟨c, hx, hs⟩
    · refine qMo_isIn (fun c1 c2 => absurd ⟨c1, c2⟩ c) (fun y => vMo_end_11 ⟨fun q => absurd rfl q, fun _ => qe (k M ?_ frR_r) hx.symm⟩)
      rw [hs]; exact hR
    · refine qMo_isIn (fun c1 c2 => vMo_end_11 ⟨fun _ => qe (k _ ?_ (fun b j h => up_un (by omega))) hx.symm, fun q => absurd (by decide) q⟩) (fun y => absurd c y)
      rw [hs]
      exact Ref_tape hR hw.1 (RG_cut hG c.1 c.2 (up_at rfl rfl) (fun j => up_un (by omega))) (fun b j h1 h2 => up_un (by omega))
/-! undo -/
theorem bo_undo : Bo kRS_undo [xO 8 0] kMo_undo [xO 9 198, xU] xI := by
  refine bo_mk (fun σ x σ2 => (σ.2.1 = 0 ∧ x = -1 ∧ σ2 = σ) ∨ (0 < σ.2.1 ∧ x = σ.2.1 - 1 ∧ σ2 = (σ.2.2.1 (σ.2.1 - 1), σ.2.1 - 1, σ.2.2.1, σ.2.2.2.1, σ.2.2.2.2.1, 0, σ.2.2.2.2.2.2.1, σ.2.2.2.2.2.2.2))) ?_ ?_
  · rintro d M Q ⟨T, a, P, kp, S, tt, g, z⟩ hw hC k
    have ha := hw.2.1
    have hC' : Cls M 0 T a P kp S tt g z := hC
    have ha' : 0 ≤ a ∧ a ≤ 10 := hw.2.1
    have e5 : M 0 5 = a := hC'.2.1.1
    refine vRS_undo_0 ?_
    rw [e5]
    refine ⟨fun y => k M _ _ (Or.inl ⟨by show a = 0; omega, rfl, rfl⟩) hw hC frC_r, fun y => ⟨fun y2 => ?_, fun y2 => absurd ha'.2 y2⟩⟩
    rw [z32_id (by omega) (by omega), up_at rfl rfl]
    refine ⟨by omega, ?_⟩
    have hw2 : tWF (P (a - 1)) := hw.2.2.1 (a - 1) (by show 0 ≤ a - 1; omega) (by show a - 1 < a; omega)
    obtain ⟨j, j0, ej⟩ := hC'.2.1.2.1.1 (a - 1) (by omega) (by omega)
    have hn := hw2.1
    have hZ := hw2.2.2.2.2.2.1
    have hc : CT M (M (0 + 17) (a - 1)) (P (a - 1)) := hC'.2.1.2.2 (a - 1) (by omega) (by omega)
    rw [ej] at hc
    rw [up_un (by omega), ej]
    refine qTable_copyFrom (by omega) (fun N hcp hf => vRS_undo_44 ?_)
    have hf2 : ∀ b j : Int, ¬ (b = 0 ∧ (j = 5 ∨ j = 7 ∨ j = 8)) → ¬ (3 ≤ b ∧ b ≤ 9) → up (up N 0 7 0) 0 8 0 b j = M b j := fun b j q1 q2 => by
      rw [up_un (by omega), up_un (by omega), hf b j (by omega), up_un (by omega)]
    have e52 : up (up N 0 7 0) 0 8 0 0 5 = a - 1 := by rw [up_un (by omega), up_un (by omega), hf _ _ (by omega), up_at rfl rfl]
    rw [e52]
    refine k _ _ _ (Or.inr ⟨by show 0 < a; omega, rfl, rfl⟩) ⟨hw2, ⟨by show 0 ≤ a - 1; omega, by show a - 1 ≤ 10; omega⟩, fun i i0 i1 => hw.2.2.1 i i0 (by have i1' : i < a - 1 := i1; show i < a; omega), hw.2.2.2.1, hw.2.2.2.2⟩ ?_ (fun b j h => hf2 b j (by omega) (by omega))
    show Cls _ 0 (P (a - 1)) (a - 1) P kp S 0 g z
    refine Cls_new (T := T) (a := a) (tt := tt) (g := g) (z := z) (M := M) hw hC' (CT_fr (hcp _ (by omega) (by omega) (CT_fr hc (fun b j b0 b1 => up_un (by omega)))) (fun b j b0 b1 => ?_)) e52 (by omega) (by show a - 1 ≤ a; omega) (by rw [up_un (by omega), up_at rfl rfl]) (up_at rfl rfl) (TG_fr hC'.2.2.2.2.2.1 (hf2 _ _ (by omega) (by omega)) (fun j => hf2 _ _ (by omega) (by omega))) (fun b j b0 b1 b2 b3 => hf2 b j b2 (by omega))
    rw [up_un (by omega), up_un (by omega)]
  · rintro d M Q ⟨T, a, P, kp, S, tt, g, z⟩ x σ2 hw hw2 hR ha k
    have hR' : Ref M 198 T a P kp S tt g z := hR
    have hab : 0 ≤ a ∧ a ≤ 10 := hw.2.1
    have e2 : M 198 2 = a := hR'.2.2.2.1.1
    refine vMo_undo_0 ?_
    rw [e2]
    rcases ha with ⟨c, hx, hs⟩ | ⟨c, hx, hs⟩
    · have c' : a = 0 := c
      refine ⟨fun y => absurd c' y, fun y => qe (k M ?_ frR_r) hx.symm⟩
      rw [hs]; exact hR
    · have c' : 0 < a := c
      refine ⟨fun y => ?_, fun y => by omega⟩
      rw [z32_id (by omega) (by omega)]
      have hwp : tWF (P (a - 1)) := hw.2.2.1 (a - 1) (by show 0 ≤ a - 1; omega) (by show a - 1 < a; omega)
      have hrt : RT M (198 + 2) (259 * (a - 1)) (P (a - 1)) := hR'.2.2.2.1.2 (a - 1) (by omega) (by omega)
      have main : ∀ i : Int, i ≤ 259 → ∀ N : xM, 0 ≤ i → (∀ j : Int, 0 ≤ j → j < i → N (198 + 1) j = M (198 + 2) (259 * (a - 1) + j)) → N 198 2 = a - 1 → (∀ b j : Int, ¬ b = 198 + 1 → ¬ (b = 198 ∧ j = 2) → N b j = M b j) → Ru (d + 100) kMo_undo 21 [xO 9 198, xI i] [] N Q := by
        refine loop_up 259 (fun i hi ih N i0 h1 h2 h3 => ?_)
        refine vMo_undo_21 ?_
        rw [h2, z32_id (x := 259 * (a - 1)) (by omega) (by omega)]
        refine ⟨fun y => ?_, fun y => ?_⟩
        · have hr1 : RT N (198 + 1) 0 (P (a - 1)) := RT_cp hwp hrt (fun j j0 j1 => by rw [Int.zero_add]; exact h1 j j0 (by omega))
          refine qMo_isLaidAnew hwp hr1 (fun N2 g1 g2 g3 g4 hf => vMo_undo_59 (qe (k N2 ?_ (fun b j h => by rw [hf b j (by unfold chD; omega)]; exact h3 b j (by omega) (by omega))) ?_))
          · rw [hs]
            exact Ref_new (T := T) (a := a) (tt := tt) (g := g) (z := z) (M := M) hR' g1 g2 g3 (by rw [hf _ _ (by unfold chD; omega)]; exact h2) (by show a - 1 ≤ a; omega) g4 (RG_fr hR'.2.2.2.2.2.2 (by rw [hf _ _ (by unfold chD; omega)]; exact h3 _ _ (by omega) (by omega)) (fun j => by rw [hf _ _ (by unfold chD; omega)]; exact h3 _ _ (by omega) (by omega))) (fun b j b0 b1 => by rw [hf b j (by unfold chD; omega)]; exact h3 b j (by omega) (by omega))
          · rw [hf _ _ (by unfold chD; omega), h2]; exact hx.symm
        · rw [z32_id (x := 259 * (a - 1) + i) (by omega) (by omega), z32_id (x := i + 1) (by omega) (by omega)]
          refine ⟨by omega, by omega, ih (i + 1) (by omega) (by omega) _ (by omega) (fun j j0 j1 => ?_) (by rw [up_un (by omega)]; exact h2) (fun b j q1 q2 => by rw [up_un (by omega)]; exact h3 b j q1 q2)⟩
          by_cases q : j = i
          · rw [q, up_at rfl rfl]; exact h3 _ _ (by omega) (by omega)
          · rw [up_un (by omega)]; exact h1 j j0 (by omega)
      exact main 0 (by decide) _ (by decide) (fun j j0 j1 => by omega) (up_at rfl rfl) (fun b j q1 q2 => up_un (by omega))
end Chg

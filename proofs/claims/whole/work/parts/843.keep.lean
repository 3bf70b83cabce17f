/-! CALLS THAT CHANGE: keep, back. -/
section Keep
variable {d : Nat} {M N : xM} {Q : xQ} {s r : Int} {T T2 : TB} {a a2 : Int} {P : Int → TB} {kp : Int} {S : Int → TB} {tt : Int} {g g2 : Int → Int} {z z2 : Int}
def kU (kp i : Int) : Int := ior kp (ishl 1 i)
def sU (S : Int → TB) (i : Int) (T : TB) : Int → TB := fun j => if j = i then T else S j
theorem kU_in {i : Int} (k0 : 0 ≤ kp) (k1 : kp ≤ 3) (i0 : 0 ≤ i) (i1 : i < 2) : 0 ≤ kU kp i ∧ kU kp i ≤ 3 := by
  rcases (by omega : kp = 0 ∨ kp = 1 ∨ kp = 2 ∨ kp = 3) with h | h | h | h <;> rcases (by omega : i = 0 ∨ i = 1) with q | q <;> subst h <;> subst q <;> decide
theorem kU_at {i : Int} (k0 : 0 ≤ kp) (k1 : kp ≤ 3) (i0 : 0 ≤ i) (i1 : i < 2) : kb (kU kp i) i = 1 := by
  rcases (by omega : kp = 0 ∨ kp = 1 ∨ kp = 2 ∨ kp = 3) with h | h | h | h <;> rcases (by omega : i = 0 ∨ i = 1) with q | q <;> subst h <;> subst q <;> decide
theorem kU_un {i j : Int} (k0 : 0 ≤ kp) (k1 : kp ≤ 3) (i0 : 0 ≤ i) (i1 : i < 2) (j0 : 0 ≤ j) (j1 : j < 2) (hj : ¬ j = i) : kb (kU kp i) j = kb kp j := by
  rcases (by omega : kp = 0 ∨ kp = 1 ∨ kp = 2 ∨ kp = 3) with h | h | h | h <;> rcases (by omega : (i = 0 ∧ j = 1) ∨ (i = 1 ∧ j = 0)) with ⟨q, p⟩ | ⟨q, p⟩ <;> subst h <;> subst q <;> subst p <;> decide
theorem sU_at {i : Int} : sU S i T i = T := if_pos rfl
theorem sU_un {i j : Int} (h : ¬ j = i) : sU S i T j = S j := if_neg h
theorem Wf_keep {i : Int} (hw : Wf T a P kp S) (i0 : 0 ≤ i) (i1 : i < 2) : Wf T a P (kU kp i) (sU S i T) := by
  obtain ⟨h1, h2, h3, h4, h5⟩ := hw
  refine ⟨h1, h2, h3, kU_in h4.1 h4.2 i0 i1, fun j j0 j1 q => ?_⟩
  by_cases c : j = i
  · rw [c, sU_at]; exact h1
  · rw [sU_un c]
    rw [kU_un h4.1 h4.2 i0 i1 j0 j1 c] at q
    exact h5 j j0 j1 q
theorem Cls_keep {i : Int} (hw : Wf T a P kp S) (h : Cls M s T a P kp S tt g z) (i0 : 0 ≤ i) (i1 : i < 2) (hc : CT N (s + 184 + 7 * i) T) (e6 : N s 6 = kU kp i) (e : ∀ b j : Int, ¬ (b = s ∧ j = 6) → (b < s + 184 + 7 * i ∨ s + 184 + 7 * i + 6 < b) → N b j = M b j) : Cls N s T a P (kU kp i) (sU S i T) tt g z := by
  obtain ⟨h1, ⟨h2, ⟨p1, p2⟩, h3⟩, ⟨⟨h4, h4', h4''⟩, h5⟩, h6, h7, h8, h9⟩ := h
  have e17 : ∀ j : Int, N (s + 17) j = M (s + 17) j := fun j => e _ _ (by omega) (by omega)
  have hk := hw.2.2.2.1
  refine ⟨CT_fr h1 (fun b j b0 b1 => e b j (by omega) (by omega)), ⟨by rw [e _ _ (by omega) (by omega)]; exact h2, ⟨fun i i0 i1 => by rw [e17]; exact p1 i i0 i1, fun i j i0 ij j1 => by rw [e17, e17]; exact p2 i j i0 ij j1⟩, fun i i0 i1 => ?_⟩, ⟨⟨e6, by rw [e _ _ (by omega) (by omega)]; exact h4', by rw [e _ _ (by omega) (by omega)]; exact h4''⟩, fun j j0 j1 q => ?_⟩, ?_, KN_fr h7 (e _ _ (by omega) (by omega)) (fun b j b0 b1 _ _ _ _ => e b j (by omega) (by omega)) (fun j _ => e _ _ (by omega) (by omega)), TG_fr h8 (e _ _ (by omega) (by omega)) (fun j => e _ _ (by omega) (by omega)), fixd_f2 h9 (fun b j b0 b1 => e b j (by omega) (by omega))⟩
  · rw [e17]
    obtain ⟨j, j0, j1⟩ := p1 i i0 (by have := hw.2.1; omega)
    exact CT_fr (h3 i i0 i1) (fun b j b0 b1 => e b j (by omega) (by omega))
  · by_cases c : j = i
    · rw [c, sU_at]; exact hc
    · rw [sU_un c]
      rw [kU_un hk.1 hk.2 i0 i1 j0 j1 c] at q
      exact CT_fr (h5 j j0 j1 q) (fun b k b0 b1 => e b k (by omega) (by omega))
  · rw [e _ _ (by omega) (by omega)]
    exact h6
theorem aRS_keep {i : Int} (hw : Wf T a P kp S) (hC : Cls M s T a P kp S tt g z) (h0 : ¬ (0 ≤ i ∧ i < 2) → Q (xI (-1)) M) (h1 : ∀ N : xM, 0 ≤ i → i < 2 → Cls N s T a P (kU kp i) (sU S i T) tt g z → frC M N s → Q (xI (tN T)) N) : Ru (d + 100) kRS_keep 0 [xO 8 s, xI i] [] M Q := by
  have hn := hw.1.1
  have hZ := hw.1.2.2.2.2.2.1
  refine vRS_keep_0 ⟨fun y => h0 (by omega), fun y => ⟨fun y2 => ⟨by omega, ?_⟩, fun y2 => h0 (by omega)⟩⟩
  have i0 : 0 ≤ i := by omega
  rw [shelf_at hC i0 y2]
  refine qTable_copyFrom (by omega) (fun N hcp hf => vRS_keep_24 ?_)
  have e6 : N s 6 = kp := by rw [hf _ _ (by omega)]; exact hC.2.2.1.1.1
  rw [up_un (by omega), hf (s + 3) 0 (by omega), hC.1.1, e6]
  have hf2 : ∀ b j : Int, ¬ (b = s ∧ j = 6) → (b < s + 184 + 7 * i ∨ s + 184 + 7 * i + 6 < b) → up N s 6 (ior kp (ishl 1 i)) b j = M b j := fun b j q1 q2 => by
    rw [up_un (by omega)]; exact hf b j q2
  exact h1 _ i0 y2 (Cls_keep hw hC i0 y2 (CT_fr (hcp T (by omega) (by omega) hC.1) (fun b j b0 b1 => up_un (by omega))) (up_at rfl rfl) hf2) (fun b j h => hf2 b j (by omega) (by omega))
theorem aMo_keep {i : Int} (hw : Wf T a P kp S) (hR : Ref M r T a P kp S tt g z) (h0 : ¬ (0 ≤ i ∧ i < 2) → Q (xI (-1)) M) (h1 : ∀ N : xM, 0 ≤ i → i < 2 → Ref N r T a P (kU kp i) (sU S i T) tt g z → frR M N r → Q (xI (tN T)) N) : Ru (d + 100) kMo_keep 0 [xO 9 r, xI i, xU] [] M Q := by
  have hk := hw.2.2.2.1
  refine vMo_keep_0 (qMo_isShelf (fun i0 i1 => vMo_keep_4 ⟨fun _ => ?_, fun q => absurd (by decide) q⟩) (fun y => vMo_keep_4 ⟨fun q => absurd rfl q, fun _ => h0 y⟩))
  have main : ∀ q : Int, q ≤ 259 → ∀ N : xM, 0 ≤ q → (∀ j : Int, 0 ≤ j → j < q → N (r + 3) (259 * i + j) = M (r + 1) j) → (∀ b j : Int, ¬ (b = r + 3 ∧ 259 * i ≤ j ∧ j < 259 * i + 259) → N b j = M b j) → Ru (d + 100) kMo_keep 11 [xO 9 r, xI i, xI q] [] N Q := by
    refine loop_up 259 (fun q hq ih N q0 g1 g2 => ?_)
    refine vMo_keep_11 ⟨fun y => ⟨by omega, by decide, ?_⟩, fun y => ?_⟩
    · have e1 : up N (r + 4) i 1 (r + 1) 0 = tN T := by rw [up_un (by omega), g2 _ _ (by omega)]; exact hR.1.1
      rw [e1]
      have hf : ∀ b j : Int, ¬ (b = r + 3 ∧ 259 * i ≤ j ∧ j < 259 * i + 259) → ¬ (b = r + 4 ∧ j = i) → up N (r + 4) i 1 b j = M b j := fun b j q1 q2 => by rw [up_un (by omega)]; exact g2 b j q1
      obtain ⟨c1, c2, c3, c4, c5, c6, c7⟩ := id hR
      have e14 : up N (r + 4) i 1 (r + 14) = M (r + 14) := funext fun j => hf _ _ (by omega) (by omega)
      have e15 : up N (r + 4) i 1 (r + 15) = M (r + 15) := funext fun j => hf _ _ (by omega) (by omega)
      have e26 : up N (r + 4) i 1 (r + 26) = M (r + 26) := funext fun j => hf _ _ (by omega) (by omega)
      refine h1 _ i0 i1 ⟨RT_fr c1 (fun j => hf _ _ (by omega) (by omega)), RL_fr c2 (fun b j b0 b1 => hf b j (by omega) (by omega)) (hf _ _ (by omega) (by omega)), by rw [e14, e15, e26, hf _ _ (by omega) (by omega)]; exact c3, ⟨by rw [hf _ _ (by omega) (by omega)]; exact c4.1, fun k k0 k1 => RT_fr (c4.2 k k0 k1) (fun j => hf _ _ (by omega) (by omega))⟩, fun k k0 k1 => ?_, by rw [hf _ _ (by omega) (by omega)]; exact c6, RG_fr c7 (hf _ _ (by omega) (by omega)) (fun j => hf _ _ (by omega) (by omega))⟩ (fun b j h => hf b j (by omega) (by omega))
      by_cases c : k = i
      · subst c
        exact ⟨by rw [up_at rfl rfl, kU_at hk.1 hk.2 i0 i1], fun _ => by rw [sU_at]; exact RT_cp hw.1 c1 (fun j j0 j1 => by rw [up_un (by omega), Int.zero_add]; exact g1 j j0 (by omega))⟩
      · rw [sU_un c, kU_un hk.1 hk.2 i0 i1 k0 k1 c]
        exact ⟨by rw [hf _ _ (by omega) (by omega)]; exact (c5 k k0 k1).1, fun q => RT_cp (hw.2.2.2.2 k k0 k1 q) ((c5 k k0 k1).2 q) (fun j j0 j1 => hf _ _ (by omega) (by omega))⟩
    · rw [z32_id (x := 259 * i) (by omega) (by omega), z32_id (x := 259 * i + q) (by omega) (by omega), z32_id (x := q + 1) (by omega) (by omega)]
      refine ⟨by omega, by omega, ih (q + 1) (by omega) (by omega) _ (by omega) (fun j j0 j1 => ?_) (fun b j c => by rw [up_un (by omega)]; exact g2 b j c)⟩
      by_cases c : j = q
      · rw [c, up_at rfl rfl]; exact g2 _ _ (by omega)
      · rw [up_un (by omega)]; exact g1 j j0 (by omega)
  exact main 0 (by decide) M (by decide) (fun j j0 j1 => by omega) (fun _ _ _ => rfl)
theorem bo_keep (i : Int) : Bo kRS_keep [xO 8 0, xI i] kMo_keep [xO 9 198, xI i, xU] xI := by
  refine bo_mk (fun σ x σ2 => (¬ (0 ≤ i ∧ i < 2) ∧ x = -1 ∧ σ2 = σ) ∨ ((0 ≤ i ∧ i < 2) ∧ x = tN σ.1 ∧ σ2 = (σ.1, σ.2.1, σ.2.2.1, kU σ.2.2.2.1 i, sU σ.2.2.2.2.1 i σ.1, σ.2.2.2.2.2.1, σ.2.2.2.2.2.2.1, σ.2.2.2.2.2.2.2))) ?_ ?_
  · rintro d M Q ⟨T, a, P, kp, S, tt, g, z⟩ hw hC k
    exact aRS_keep (T := T) (a := a) (P := P) (kp := kp) (S := S) (tt := tt) (g := g) (z := z) hw hC (fun y => k M _ _ (Or.inl ⟨y, rfl, rfl⟩) hw hC frC_r) (fun N i0 i1 hN hF => k N _ (T, a, P, kU kp i, sU S i T, tt, g, z) (Or.inr ⟨⟨i0, i1⟩, rfl, rfl⟩) (Wf_keep (T := T) (a := a) (P := P) (kp := kp) (S := S) hw i0 i1) hN hF)
  · rintro d M Q ⟨T, a, P, kp, S, tt, g, z⟩ x σ2 hw hw2 hR ha k
    refine aMo_keep (T := T) (a := a) (P := P) (kp := kp) (S := S) (tt := tt) (g := g) (z := z) hw hR (fun y => ?_) (fun N i0 i1 hN hF => ?_)
    · rcases ha with ⟨c, hx, hs⟩ | ⟨c, hx, hs⟩
      · exact qe (k M (by rw [hs]; exact hR) frR_r) hx.symm
      · exact absurd c y
    · rcases ha with ⟨c, hx, hs⟩ | ⟨c, hx, hs⟩
      · exact absurd ⟨i0, i1⟩ c
      · exact qe (k N (by rw [hs]; exact hN) hF) hx.symm
/-! back -/
theorem aRS_back {i : Int} (hw : Wf T a P kp S) (hC : Cls M s T a P kp S tt g z) (h0 : ¬ (0 ≤ i ∧ i < 2) → Q (xI (-1)) M) (h2 : 0 ≤ i → i < 2 → ¬ kb kp i = 1 → Q (xI (-2)) M) (h1 : ∀ N : xM, 0 ≤ i → i < 2 → kb kp i = 1 → Cls N s (S i) 0 P kp S 0 g z → frC M N s → Q (xI (tN (S i))) N) : Ru (d + 100) kRS_back 0 [xO 8 s, xI i] [] M Q := by
  refine vRS_back_0 ⟨fun y => h0 (by omega), fun y => ⟨fun y2 => ?_, fun y2 => h0 (by omega)⟩⟩
  have i0 : 0 ≤ i := by omega
  refine qRS_isKept hw hC i0 y2 (fun hk => vRS_back_16 ⟨fun _ => ⟨⟨i0, y2⟩, ?_⟩, fun q => absurd (by decide) q⟩) (fun hk => vRS_back_16 ⟨fun q => absurd rfl q, fun _ => h2 i0 y2 hk⟩)
  have hw2 := hw.2.2.2.2 i i0 y2 hk
  have hn := hw2.1
  have hZ := hw2.2.2.2.2.2.1
  have hc := hC.2.2.1.2 i i0 y2 hk
  rw [shelf_at hC i0 y2]
  refine qTable_copyFrom (by omega) (fun N hcp hf => vRS_back_35 (vRS_forgetActs_0 (vRS_back_39 ?_)))
  have hcN := hcp _ (by omega) (by omega) hc
  have hf2 : ∀ b j : Int, ¬ (b = s ∧ (j = 5 ∨ j = 7 ∨ j = 8)) → ¬ (s + 3 ≤ b ∧ b ≤ s + 9) → up (up (up N s 5 0) s 7 0) s 8 0 b j = M b j := fun b j q1 q2 => by
    rw [up_un (by omega), up_un (by omega), up_un (by omega)]; exact hf b j (by omega)
  have hcU : CT (up (up (up N s 5 0) s 7 0) s 8 0) (s + 3) (S i) := CT_fr hcN (fun b j b0 b1 => by rw [up_un (by omega), up_un (by omega), up_un (by omega)])
  rw [hcU.1]
  exact h1 _ i0 y2 hk (Cls_new hw hC hcU (by rw [up_un (by omega), up_un (by omega), up_at rfl rfl]) (Int.le_refl _) hw.2.1.1 (by rw [up_un (by omega), up_at rfl rfl]) (up_at rfl rfl) (TG_fr hC.2.2.2.2.2.1 (hf2 _ _ (by omega) (by omega)) (fun j => hf2 _ _ (by omega) (by omega))) (fun b j b0 b1 b2 b3 => hf2 b j b2 (by omega))) (fun b j h => hf2 b j (by omega) (by omega))
theorem aMo_back {i : Int} (hw : Wf T a P kp S) (hR : Ref M r T a P kp S tt g z) (h0 : ¬ (0 ≤ i ∧ i < 2) → Q (xI (-1)) M) (h2 : 0 ≤ i → i < 2 → ¬ kb kp i = 1 → Q (xI (-2)) M) (h1 : ∀ N : xM, 0 ≤ i → i < 2 → kb kp i = 1 → Ref N r (S i) 0 P kp S 0 g z → frR M N r → Q (xI (tN (S i))) N) : Ru (d + 100) kMo_back 0 [xO 9 r, xI i, xU] [] M Q := by
  refine vMo_back_0 (qMo_isShelf (fun i0 i1 => vMo_back_4 ⟨fun _ => ⟨⟨i0, i1⟩, ?_⟩, fun q => absurd (by decide) q⟩) (fun y => vMo_back_4 ⟨fun q => absurd rfl q, fun _ => h0 y⟩))
  obtain ⟨e4, hT⟩ := hR.2.2.2.2.1 i i0 i1
  have h01 := kb_01 hw.2.2.2.1.1 hw.2.2.2.1.2 i0 i1
  rw [e4]
  refine ⟨fun y => ?_, fun y => h2 i0 i1 (by omega)⟩
  have hk : kb kp i = 1 := by omega
  have hw2 := hw.2.2.2.2 i i0 i1 hk
  have main : ∀ q : Int, q ≤ 259 → ∀ N : xM, 0 ≤ q → (∀ j : Int, 0 ≤ j → j < q → N (r + 1) j = M (r + 3) (259 * i + j)) → (∀ b j : Int, ¬ b = r + 1 → N b j = M b j) → Ru (d + 100) kMo_back 23 [xO 9 r, xI i, xI q] [] N Q := by
    refine loop_up 259 (fun q hq ih N q0 g1 g2 => ?_)
    refine vMo_back_23 ⟨fun y => ?_, fun y => ?_⟩
    · have hr1 : RT (up N r 2 0) (r + 1) 0 (S i) := RT_cp hw2 (hT hk) (fun j j0 j1 => by rw [Int.zero_add, up_un (by omega)]; exact g1 j j0 (by omega))
      refine qMo_isLaidAnew hw2 hr1 (fun N2 f1 f2 f3 f4 hf => vMo_back_63 ⟨by decide, ?_⟩)
      have hfa : ∀ b j : Int, ¬ chD r b j → ¬ b = r + 1 → ¬ (b = r ∧ j = 2) → N2 b j = M b j := fun b j q1 q2 q3 => by rw [hf b j q1, up_un (by omega)]; exact g2 b j q2
      rw [f1.1]
      exact h1 N2 i0 i1 hk (Ref_new hR f1 f2 f3 (by rw [hf _ _ (by unfold chD; omega)]; exact up_at rfl rfl) hw.2.1.1 f4 (RG_fr hR.2.2.2.2.2.2 (hfa _ _ (by unfold chD; omega) (by omega) (by omega)) (fun j => hfa _ _ (by unfold chD; omega) (by omega) (by omega))) (fun b j b0 b1 => hfa b j (by unfold chD; omega) (by omega) (by omega))) (fun b j h => hfa b j (chD_fr h) (by omega) (by omega))
    · rw [z32_id (x := 259 * i) (by omega) (by omega), z32_id (x := 259 * i + q) (by omega) (by omega), z32_id (x := q + 1) (by omega) (by omega)]
      refine ⟨by omega, by omega, ih (q + 1) (by omega) (by omega) _ (by omega) (fun j j0 j1 => ?_) (fun b j c => by rw [up_un (by omega)]; exact g2 b j c)⟩
      by_cases c : j = q
      · rw [c, up_at rfl rfl]; exact g2 _ _ (by omega)
      · rw [up_un (by omega)]; exact g1 j j0 (by omega)
  exact main 0 (by decide) M (by decide) (fun j j0 j1 => by omega) (fun _ _ _ => rfl)
theorem bo_back (i : Int) : Bo kRS_back [xO 8 0, xI i] kMo_back [xO 9 198, xI i, xU] xI := by
  refine bo_mk (fun σ x σ2 => (¬ (0 ≤ i ∧ i < 2) ∧ x = -1 ∧ σ2 = σ) ∨ ((0 ≤ i ∧ i < 2) ∧ ¬ kb σ.2.2.2.1 i = 1 ∧ x = -2 ∧ σ2 = σ) ∨ ((0 ≤ i ∧ i < 2) ∧ kb σ.2.2.2.1 i = 1 ∧ x = tN (σ.2.2.2.2.1 i) ∧ σ2 = (σ.2.2.2.2.1 i, 0, σ.2.2.1, σ.2.2.2.1, σ.2.2.2.2.1, 0, σ.2.2.2.2.2.2.1, σ.2.2.2.2.2.2.2))) ?_ ?_
  · rintro d M Q ⟨T, a, P, kp, S, tt, g, z⟩ hw hC k
    have hw' : Wf T a P kp S := hw
    exact aRS_back (T := T) (a := a) (P := P) (kp := kp) (S := S) (tt := tt) (g := g) (z := z) hw hC (fun y => k M _ _ (Or.inl ⟨y, rfl, rfl⟩) hw hC frC_r) (fun i0 i1 hk => k M _ _ (Or.inr (Or.inl ⟨⟨i0, i1⟩, hk, rfl, rfl⟩)) hw hC frC_r) (fun N i0 i1 hk hN hF => k N _ (S i, 0, P, kp, S, 0, g, z) (Or.inr (Or.inr ⟨⟨i0, i1⟩, hk, rfl, rfl⟩)) ⟨hw'.2.2.2.2 i i0 i1 hk, ⟨Int.le_refl _, by show (0 : Int) ≤ 10; decide⟩, fun i i0 i1 => absurd i1 (by show ¬ i < 0; omega), hw'.2.2.2.1, hw'.2.2.2.2⟩ hN hF)
  · rintro d M Q ⟨T, a, P, kp, S, tt, g, z⟩ x σ2 hw hw2 hR ha k
    refine aMo_back (T := T) (a := a) (P := P) (kp := kp) (S := S) (tt := tt) (g := g) (z := z) hw hR (fun y => ?_) (fun i0 i1 hk => ?_) (fun N i0 i1 hk hN hF => ?_)
    · rcases ha with ⟨c, hx, hs⟩ | ⟨c, _, hx, hs⟩ | ⟨c, _, hx, hs⟩
      · exact qe (k M (by rw [hs]; exact hR) frR_r) hx.symm
      · exact absurd c y
      · exact absurd c y
    · rcases ha with ⟨c, hx, hs⟩ | ⟨c, _, hx, hs⟩ | ⟨c, c2, hx, hs⟩
      · exact absurd ⟨i0, i1⟩ c
      · exact qe (k M (by rw [hs]; exact hR) frR_r) hx.symm
      · exact absurd c2 hk
    · rcases ha with ⟨c, hx, hs⟩ | ⟨c, c2, hx, hs⟩ | ⟨c, _, hx, hs⟩
      · exact absurd ⟨i0, i1⟩ c
      · exact absurd hk c2
      · exact qe (k N (by rw [hs]; exact hN) hF) hx.symm
end Keep

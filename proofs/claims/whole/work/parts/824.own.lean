/-! WHAT A HOP HAS as beginnings; what a rule serves; the rule around a rule; hops. -/
noncomputable def pcN (a b : Int) : Int := Classical.epsilon (fun n => ∃ V L : Int → Int, isPcs V L a b n)
noncomputable def pcV (a b j : Int) : Int := Classical.epsilon (fun v => ∃ (V L : Int → Int) (n : Int), isPcs V L a b n ∧ v = V j)
noncomputable def pcL (a b j : Int) : Int := Classical.epsilon (fun v => ∃ (V L : Int → Int) (n : Int), isPcs V L a b n ∧ v = L j)
theorem pc_eq {V L : Int → Int} {a b n : Int} (h : isPcs V L a b n) : n = pcN a b ∧ ∀ j : Int, 0 ≤ j → j < n → V j = pcV a b j ∧ L j = pcL a b j := by
  have e1 : ∃ V L : Int → Int, isPcs V L a b (pcN a b) := Classical.epsilon_spec (p := fun n => ∃ V L : Int → Int, isPcs V L a b n) ⟨n, V, L, h⟩
  obtain ⟨V1, L1, h1⟩ := e1
  refine ⟨(isPcs_u h h1).1, fun j j0 j1 => ⟨?_, ?_⟩⟩
  · have e2 : ∃ (V2 L2 : Int → Int) (n2 : Int), isPcs V2 L2 a b n2 ∧ pcV a b j = V2 j := Classical.epsilon_spec (p := fun v => ∃ (V L : Int → Int) (n : Int), isPcs V L a b n ∧ v = V j) ⟨V j, V, L, n, h, rfl⟩
    obtain ⟨V2, L2, n2, h2, h3⟩ := e2
    rw [h3]
    exact ((isPcs_u h h2).2 j j0 j1).1
  · have e2 : ∃ (V2 L2 : Int → Int) (n2 : Int), isPcs V2 L2 a b n2 ∧ pcL a b j = L2 j := Classical.epsilon_spec (p := fun v => ∃ (V L : Int → Int) (n : Int), isPcs V L a b n ∧ v = L j) ⟨L j, V, L, n, h, rfl⟩
    obtain ⟨V2, L2, n2, h2, h3⟩ := e2
    rw [h3]
    exact ((isPcs_u h h2).2 j j0 j1).2
/-- the k-th of all beginnings of a hop's rows; how many there are below 0, less 3 -/
noncomputable def oS (T : TB) (F : Int → Int) (m g k w : Int) : Nat → Int → Int → Int
  | 0, _, n => -3 - n
  | q + 1, i, n => if hp T (F i) = g then (if n ≤ k ∧ k < n + pcN (F i) (nxF F m i) then (if w = 0 then pcL (F i) (nxF F m i) (k - n) else pcV (F i) (nxF F m i) (k - n)) else oS T F m g k w q (i + 1) (n + pcN (F i) (nxF F m i))) else oS T F m g k w q (i + 1) n
theorem oS_cg {T : TB} {F F2 : Int → Int} {m g k w : Int} (e : ∀ i : Int, 0 ≤ i → i < m → F i = F2 i) : ∀ (q : Nat) (i n : Int), 0 ≤ i → i + q ≤ m → oS T F m g k w q i n = oS T F2 m g k w q i n
  | 0, _, _, _, _ => rfl
  | q + 1, i, n, i0, iq => by
    have h1 := e i i0 (by omega)
    have h2 : nxF F m i = nxF F2 m i := by
      by_cases z : i + 1 < m
      · rw [nxF_in z, nxF_in z, e (i + 1) (by omega) z]
      · rw [nxF_end z, nxF_end z]
    show (if hp T (F i) = g then (if n ≤ k ∧ k < n + pcN (F i) (nxF F m i) then (if w = 0 then pcL (F i) (nxF F m i) (k - n) else pcV (F i) (nxF F m i) (k - n)) else oS T F m g k w q (i + 1) (n + pcN (F i) (nxF F m i))) else oS T F m g k w q (i + 1) n) = (if hp T (F2 i) = g then (if n ≤ k ∧ k < n + pcN (F2 i) (nxF F2 m i) then (if w = 0 then pcL (F2 i) (nxF F2 m i) (k - n) else pcV (F2 i) (nxF F2 m i) (k - n)) else oS T F2 m g k w q (i + 1) (n + pcN (F2 i) (nxF F2 m i))) else oS T F2 m g k w q (i + 1) n)
    rw [h1, h2, oS_cg e q (i + 1) _ (by omega) (by omega), oS_cg e q (i + 1) _ (by omega) (by omega)]
/-- what own answers -/
def oA (x k w : Int) : Int := if w = 0 ∨ w = 1 then (if k = -1 then (if w = 0 then -3 - x else -2) else if 0 ≤ x then x else -2) else -2
section Own
variable {d : Nat} {M : xM} {Q : xQ} {T : TB} {s r g k w : Int}
theorem qPieces_tellOf {p j : Int} (j0 : 0 ≤ j) (j1 : j < M p 0) (j2 : j < 64) (h : Q (xL (if w = 0 then M (p + 2) j else if w = 1 then M (p + 1) j else -2)) M) : Ru d kPieces_tellOf 0 [xO 4 p, xI j, xI w] [] M Q := by
  refine vPieces_tellOf_0 ⟨fun y => by omega, fun y => ⟨fun y2 => by omega, fun y2 => ⟨fun y3 => by omega, fun y3 => ⟨fun y4 => vPieces_tellOf_31 ⟨fun z => absurd y4 z, fun z => ⟨by omega, ?_⟩⟩, fun y4 => ⟨fun y5 => vPieces_tellOf_31 ⟨fun z => ⟨by omega, ?_⟩, fun z => absurd y4 z⟩, fun y5 => ?_⟩⟩⟩⟩⟩
  · rw [if_pos y4] at h; exact h
  · rw [if_neg y4, if_pos y5] at h; exact h
  · rw [if_neg y4, if_neg y5] at h; exact h
theorem qPieces_tellOf0 {p j : Int} (hj : ¬ (0 ≤ j ∧ j < M p 0)) (h : Q (xL (-2)) M) : Ru d kPieces_tellOf 0 [xO 4 p, xI j, xI w] [] M Q :=
  vPieces_tellOf_0 ⟨fun _ => h, fun y => ⟨fun _ => h, fun y2 => absurd ⟨by omega, by omega⟩ hj⟩⟩
theorem qRS_ownL (hS : SR M (s + 19) T) (k0 : -1 ≤ k) (k1 : k < 2147483648) (h : ∀ N : xM, (∀ b j : Int, ¬ (b = s + 111 ∧ j = 0) → ¬ b = s + 111 + 1 → ¬ b = s + 111 + 2 → N b j = M b j) → Q (xL (oA (oS T (M (s + 19 + 1)) (M (s + 19) 0) g k w (M (s + 19) 0).toNat 0 0) k w)) N) : Ru (d + 3) kRS_own 29 [xO 8 s, xI g, xI k, xI w, xU, xU] [] M Q := by
  obtain ⟨r1, b1, l1, hh⟩ := hS
  have hm := r1.1
  refine vRS_own_29 ?_
  have main : ∀ i : Int, i ≤ M (s + 19) 0 → ∀ (N : xM) (n : Int), 0 ≤ i → 0 ≤ n → n ≤ 64 * i → oS T (M (s + 19 + 1)) (M (s + 19) 0) g k w (M (s + 19) 0 - i).toNat i n = oS T (M (s + 19 + 1)) (M (s + 19) 0) g k w (M (s + 19) 0).toNat 0 0 → (∀ b j : Int, ¬ (b = s + 111 ∧ j = 0) → ¬ b = s + 111 + 1 → ¬ b = s + 111 + 2 → N b j = M b j) → Ru (d + 3) kRS_own 35 [xO 8 s, xI g, xI k, xI w, xI n, xI i] [] N Q := by
    refine loop_up (M (s + 19) 0) (fun i hi ih N n i0 n0 n1 hO hf => ?_)
    refine vRS_own_35 ?_
    rw [hf (s + 19) 0 (by omega) (by omega) (by omega), hf (s + 19 + 1) i (by omega) (by omega) (by omega), hf (s + 19 + 2) i (by omega) (by omega) (by omega), hf (s + 19 + 3) i (by omega) (by omega) (by omega)]
    refine ⟨fun y => ?_, fun y => ⟨by omega, fun y2 => ⟨by omega, by omega, ?_⟩, fun y2 => ?_⟩⟩
    · have ei : i = M (s + 19) 0 := by omega
      have h' := h N hf
      rw [← hO, ei, Int.sub_self] at h'
      have e0 : oS T (M (s + 19 + 1)) (M (s + 19) 0) g k w (0 : Int).toNat (M (s + 19) 0) n = -3 - n := rfl
      rw [e0] at h'
      unfold oA at h'
      refine ⟨fun z => ?_, fun z => ⟨fun z2 => ?_, fun z2 => ?_⟩⟩
      · rw [if_neg z, if_neg (c := 0 ≤ -3 - n) (by omega)] at h'
        rw [ite_self] at h'
        exact h'
      · have z := Classical.not_not.mp z
        rw [if_pos z, if_neg z2, ite_self] at h'
        exact h'
      · have z := Classical.not_not.mp z
        have z2 := Classical.not_not.mp z2
        rw [if_pos (Or.inl z2), if_pos z, if_pos z2, show -3 - (-3 - n) = n by omega] at h'
        exact h'
    · have hin := rows_in r1 i0 (show i < M (s + 19) 0 by omega)
      have hlt := r1.2.2.1 i i0 (by omega)
      have nx := rows_nx r1 i0 (show i < M (s + 19) 0 by omega)
      have el := l1 i i0 (by omega)
      have hhp : hp T (M (s + 19 + 1) i) = g := by rw [hh i i0 (by omega) _ (Int.le_refl _) hlt]; exact y2
      rw [el]
      refine qPieces_cut hin.1 (by omega) (by omega) (fun N2 hp2 hf2 => vRS_own_91 ?_)
      rw [show nxF (M (s + 19 + 1)) (M (s + 19) 0) i - 1 + 1 = nxF (M (s + 19 + 1)) (M (s + 19) 0) i by omega] at hp2
      obtain ⟨pe1, pe2⟩ := pc_eq hp2
      have pb := hp2.1
      have hf3 : ∀ b j : Int, ¬ (b = s + 111 ∧ j = 0) → ¬ b = s + 111 + 1 → ¬ b = s + 111 + 2 → N2 b j = M b j := fun b j h7 h8 h9 => by rw [hf2 b j h7 h8 h9]; exact hf b j h7 h8 h9
      have hu : oS T (M (s + 19 + 1)) (M (s + 19) 0) g k w (M (s + 19) 0 - i).toNat i n = if n ≤ k ∧ k < n + N2 (s + 111) 0 then (if w = 0 then N2 (s + 111 + 2) (k - n) else N2 (s + 111 + 1) (k - n)) else oS T (M (s + 19 + 1)) (M (s + 19) 0) g k w (M (s + 19) 0 - (i + 1)).toNat (i + 1) (n + N2 (s + 111) 0) := by
        rw [show (M (s + 19) 0 - i).toNat = (M (s + 19) 0 - (i + 1)).toNat + 1 by omega]
        show (if hp T (M (s + 19 + 1) i) = g then _ else _) = _
        rw [if_pos hhp, ← pe1]
        by_cases z : n ≤ k ∧ k < n + N2 (s + 111) 0
        · rw [if_pos z, if_pos z, (pe2 (k - n) (by omega) (by omega)).1, (pe2 (k - n) (by omega) (by omega)).2]
        · rw [if_neg z, if_neg z]
      have go : ¬ (n ≤ k ∧ k < n + N2 (s + 111) 0) → Ru (d + 3) kRS_own 35 [xO 8 s, xI g, xI k, xI w, xI (z32 (n + N2 (s + 111) 0)), xI (z32 (i + 1))] [] N2 Q := fun z => by
        rw [z32_id (x := i + 1) (by omega) (by omega), z32_id (by omega) (by omega)]
        rw [if_neg z] at hu
        exact ih (i + 1) (by omega) (by omega) N2 _ (by omega) (by omega) (by omega) (by rw [← hu]; exact hO) hf3
      refine ⟨fun z => go (by omega), fun z => ?_⟩
      rw [z32_id (x := k - n) (by omega) (by omega)]
      refine ⟨fun z2 => go (by omega), fun z2 => ?_⟩
      refine qPieces_tellOf (by omega) (by omega) (by omega) (vRS_own_123 ?_)
      have h' := h N2 hf3
      rw [← hO, hu, if_pos (by omega)] at h'
      have hv := hp2.2.2.1 (k - n) (by omega) (by omega)
      have hlb := hv.1
      unfold oA at h'
      by_cases w0 : w = 0
      · rw [if_pos (Or.inl w0), if_neg (by omega), if_pos w0, if_pos hlb.1] at h'
        rw [if_pos w0]
        exact h'
      · by_cases w1 : w = 1
        · rw [if_pos (Or.inr w1), if_neg (by omega), if_neg w0, if_pos hv.2.1] at h'
          rw [if_neg w0, if_pos w1]
          exact h'
        · rw [if_neg (by omega)] at h'
          rw [if_neg w0, if_neg w1]
          exact h'
    · have hlt := r1.2.2.1 i i0 (by omega)
      have hhp : ¬ hp T (M (s + 19 + 1) i) = g := by rw [hh i i0 (by omega) _ (Int.le_refl _) hlt]; exact y2
      rw [z32_id (x := i + 1) (by omega) (by omega)]
      refine ih (i + 1) (by omega) (by omega) N n (by omega) n0 (by omega) ?_ hf
      rw [← hO, show (M (s + 19) 0 - i).toNat = (M (s + 19) 0 - (i + 1)).toNat + 1 by omega]
      show _ = (if hp T (M (s + 19 + 1) i) = g then _ else _)
      rw [if_neg hhp]
  exact main 0 (by omega) M 0 (by decide) (by decide) (by decide) (by rw [Int.sub_zero]) (fun _ _ _ _ _ => rfl)
theorem qMo_ownAt (hw : tWF T) (hR : RW M r 0 T) (hg : okH T g) (k0 : -1 ≤ k) (k1 : k < 2147483648) (hw01 : w = 0 ∨ w = 1) (h : ∀ N : xM, (∀ b j : Int, ¬ (b = r ∧ j = 29) → ¬ b = r + 19 → ¬ b = r + 20 → N b j = M b j) → Q (xL (oS T (M (r + 6)) (M (r + 5) 0) g k w (M (r + 5) 0).toNat 0 0)) N) : Ru (d + 2) kMo_ownAt 0 [xO 9 r, xI (hk T g), xI k, xI w, xU, xU, xU] [] M Q := by
  have b1 := hR.2.1
  have r1 := RW_0 hR
  have hm := r1.1
  have e6 : (fun i => M (r + 6) (124 * 0 + i)) = M (r + 6) := funext fun i => by rw [show (124 : Int) * 0 + i = i by omega]
  refine vMo_ownAt_0 ?_
  have main : ∀ i : Int, i ≤ M (r + 5) 0 → ∀ (N : xM) (n : Int) (w6 : xV), 0 ≤ i → 0 ≤ n → n ≤ 64 * i → oS T (M (r + 6)) (M (r + 5) 0) g k w (M (r + 5) 0 - i).toNat i n = oS T (M (r + 6)) (M (r + 5) 0) g k w (M (r + 5) 0).toNat 0 0 → (∀ b j : Int, ¬ (b = r ∧ j = 29) → ¬ b = r + 19 → ¬ b = r + 20 → N b j = M b j) → Ru (d + 2) kMo_ownAt 6 [xO 9 r, xI (hk T g), xI k, xI w, xI n, xI i, w6] [] N Q := by
    refine loop_up (M (r + 5) 0) (fun i hi ih N n w6 i0 n0 n1 hO hf => ?_)
    refine vMo_ownAt_6 ?_
    rw [hf (r + 5) 0 (by omega) (by omega) (by omega), hf (r + 6) i (by omega) (by omega) (by omega), hf (r + 7) i (by omega) (by omega) (by omega)]
    refine ⟨by decide, fun y => ?_, fun y => ⟨by omega, fun y2 => ⟨by omega, ?_⟩, fun y2 => ?_⟩⟩
    · have ei : i = M (r + 5) 0 := by omega
      have h' := h N hf
      rw [← hO, ei, Int.sub_self] at h'
      have e0 : oS T (M (r + 6)) (M (r + 5) 0) g k w (0 : Int).toNat (M (r + 5) 0) n = -3 - n := rfl
      rw [e0] at h'
      rw [z32_id (by omega) (by omega)]
      exact h'
    · have hin := rows_in r1 i0 (show i < M (r + 5) 0 by omega)
      have hlt := r1.2.2.1 i i0 (by omega)
      have nx := rows_nx r1 i0 (show i < M (r + 5) 0 by omega)
      have hhp : hp T (M (r + 6) i) = g := by rw [← hk_iff hw hg, r1.2.2.2.1 i i0 (by omega) _ (Int.le_refl _) hlt]; exact y2
      have hRN : RW N r 0 T := RW_fr hR (fun b j b0 b1 => hf b j (by omega) (by omega) (by omega))
      have g5 : N (r + 5) 0 = M (r + 5) 0 := hf _ _ (by omega) (by omega) (by omega)
      have g6 : (fun i => N (r + 6) (124 * 0 + i)) = M (r + 6) := by rw [← e6]; funext j; exact hf _ _ (by omega) (by omega) (by omega)
      refine qMo_behindRow hRN (Or.inl rfl) i0 (by omega) ?_
      rw [g5, g6]
      refine vMo_ownAt_47 ?_
      rw [z64_id (by omega) (by omega)]
      refine qMo_covers (fun z => ?_) (fun _ N2 hp2 hf2 => vMo_ownAt_53 ?_)
      · rw [uns_z, uns_z, uns_id hin.1 hin.2, uns_id (by omega) (by omega)] at z
        omega
      rw [uns_z, uns_z, uns_id hin.1 hin.2, uns_id (by omega) (by omega), show nxF (M (r + 6)) (M (r + 5) 0) i - 1 + 1 = nxF (M (r + 6)) (M (r + 5) 0) i by omega] at hp2
      obtain ⟨pe1, pe2⟩ := pc_eq hp2
      have pb := hp2.1
      have hf3 : ∀ b j : Int, ¬ (b = r ∧ j = 29) → ¬ b = r + 19 → ¬ b = r + 20 → N2 b j = M b j := fun b j h7 h8 h9 => by rw [hf2 b j h7 h8 h9]; exact hf b j h7 h8 h9
      have hu : oS T (M (r + 6)) (M (r + 5) 0) g k w (M (r + 5) 0 - i).toNat i n = if n ≤ k ∧ k < n + N2 r 29 then (if w = 0 then N2 (r + 20) (k - n) else N2 (r + 19) (k - n)) else oS T (M (r + 6)) (M (r + 5) 0) g k w (M (r + 5) 0 - (i + 1)).toNat (i + 1) (n + N2 r 29) := by
        rw [show (M (r + 5) 0 - i).toNat = (M (r + 5) 0 - (i + 1)).toNat + 1 by omega]
        show (if hp T (M (r + 6) i) = g then _ else _) = _
        rw [if_pos hhp, ← pe1]
        by_cases z : n ≤ k ∧ k < n + N2 r 29
        · rw [if_pos z, if_pos z, (pe2 (k - n) (by omega) (by omega)).1, (pe2 (k - n) (by omega) (by omega)).2]
        · rw [if_neg z, if_neg z]
      rw [z32_id (x := n + N2 r 29) (by omega) (by omega), z32_id (x := i + 1) (by omega) (by omega)]
      have go : ¬ (n ≤ k ∧ k < n + N2 r 29) → ∀ w7 : xV, Ru (d + 2) kMo_ownAt 6 [xO 9 r, xI (hk T g), xI k, xI w, xI (n + N2 r 29), xI (i + 1), w7] [] N2 Q := fun z w7 => by
        rw [if_neg z] at hu
        exact ih (i + 1) (by omega) (by omega) N2 _ _ (by omega) (by omega) (by omega) (by rw [← hu]; exact hO) hf3
      refine ⟨fun z => go (by omega) _, fun z => ⟨fun z2 => go (by omega) _, fun z2 => ?_⟩⟩
      rw [z32_id (x := k - n) (by omega) (by omega)]
      have h' := h N2 hf3
      rw [← hO, hu, if_pos (by omega)] at h'
      refine ⟨fun z3 => ⟨by omega, ?_⟩, fun z3 => ⟨by omega, ?_⟩⟩
      · rw [if_neg z3] at h'; exact h'
      · rw [if_pos (Classical.not_not.mp z3)] at h'; exact h'
    · have hlt := r1.2.2.1 i i0 (by omega)
      have hhp : ¬ hp T (M (r + 6) i) = g := by rw [← hk_iff hw hg, r1.2.2.2.1 i i0 (by omega) _ (Int.le_refl _) hlt]; exact y2
      rw [z32_id (x := i + 1) (by omega) (by omega)]
      refine ih (i + 1) (by omega) (by omega) N n _ (by omega) n0 (by omega) ?_ hf
      rw [← hO, show (M (r + 5) 0 - i).toNat = (M (r + 5) 0 - (i + 1)).toNat + 1 by omega]
      show _ = (if hp T (M (r + 6) i) = g then _ else _)
      rw [if_neg hhp]
  exact main 0 (by omega) M 0 _ (by decide) (by decide) (by decide) (by rw [Int.sub_zero]) (fun _ _ _ _ _ => rfl)
end Own
section Served
variable {d : Nat} {M : xM} {Q : xQ} {T : TB} {t p r k : Int}
theorem qMo_servedBy (hw : tWF T) (hc : RT M (r + 1) 0 T) (h : ∀ N : xM, (∀ b j : Int, ¬ b = r + 11 → ¬ b = r + 12 → ¬ (b = r ∧ j = 12) → N b j = M b j) → Q (xL (num T k 4294967296)) N) : Ru (d + 5) kMo_servedBy 0 [xO 9 r, xI k, xU, xU, xU] [] M Q := by
  refine vMo_servedBy_0 (qMo_laysPlaces hw hc (Int.le_refl _) (by decide) (by decide) (by omega) (by omega) (by omega) (fun N m hP hm hr hf => vMo_servedBy_9 ?_))
  have h0 := plc_0 hw hP
  have h' := h N hf
  have e12 := hP.1
  have main : ∀ i : Int, i ≤ m → ∀ x : Int, 0 ≤ i → x = pk N r m i → Ru (d + 5) kMo_servedBy 14 [xO 9 r, xI k, xL (num T k x.toNat), xU, xI i] [] N Q := by
    refine loop_up m (fun i hi ih x i0 hx => ?_)
    have nb := num_b T k x.toNat
    refine vMo_servedBy_14 ?_
    rw [e12, z32_id (x := i + 1) (by omega) (by omega)]
    refine ⟨fun y => ?_, fun y => ⟨by omega, ?_⟩⟩
    · have e : x = 4294967296 := by rw [hx]; exact if_neg (by omega)
      rw [e]
      exact h'
    · have hxi : x = N (r + 11) i := by rw [hx]; exact if_pos (by omega)
      have hup := plc_up hw hP i0 (show i < m by omega)
      have hxb := plS_in hw (hP.2.2.2.1 i i0 (by omega))
      have hpb : pk N r m (i + 1) ≤ 4294967296 := by
        unfold pk
        by_cases e : i + 1 < m
        · rw [if_pos e]
          have := (plS_in hw (hP.2.2.2.1 (i + 1) (by omega) e)).2
          omega
        · rw [if_neg e]; omega
      have hrun := num_run (T := T) (k := rl T (N (r + 11) i)) (x := x) (y := pk N r m (i + 1)) (by omega) (by omega) (fun a a0 a1 => plc_const hw hP i0 (by omega) (by omega) a1) k
      have nb2 := num_b T k (pk N r m (i + 1)).toNat
      have nxt : ∀ v : Int, v = num T k (pk N r m (i + 1)).toNat → Ru (d + 5) kMo_servedBy 14 [xO 9 r, xI k, xL v, xU, xI (i + 1)] [] N Q := fun v hv => by
        subst hv
        exact ih (i + 1) (by omega) (by omega) _ (by omega) rfl
      rw [hr i i0 (by omega)]
      refine ⟨fun z => ?_, fun z => ⟨fun z2 => ⟨by omega, ?_⟩, fun z2 => ⟨by omega, by omega, ?_⟩⟩⟩
      · rw [if_neg (fun z9 => z z9.symm)] at hrun
        exact nxt _ (by omega)
      · rw [if_pos (Classical.not_not.mp z).symm] at hrun
        have e : pk N r m (i + 1) = 4294967296 := if_neg (by omega)
        rw [z64_id (x := 4294967296 - N (r + 11) i) (by omega) (by omega), z64_id (by omega) (by omega)]
        exact nxt _ (by omega)
      · rw [if_pos (Classical.not_not.mp z).symm] at hrun
        have e : pk N r m (i + 1) = N (r + 11) (i + 1) := if_pos (by omega)
        rw [z64_id (x := N (r + 11) (i + 1) - N (r + 11) i) (by omega) (by omega), z64_id (by omega) (by omega)]
        exact nxt _ (by omega)
  have := main 0 (by omega) 0 (by decide) (by unfold pk; rw [if_pos (by omega), h0.2])
  exact this
/-- how many rules serve none -/
def idN (T : TB) (k : Int) : Prop := num T k 4294967296 = 0
theorem qSpans_idle (hw : tWF T) (hs : ∀ j : Int, 0 ≤ j → j < tN T → M (p + 5) j = num T j 4294967296) (h : Q (xI (cq (idN T) (tN T).toNat)) M) : Ru d kSpans_idle 0 [xO 5 p, xI (tN T), xU, xU] [] M Q := by
  have hn := hw.1
  refine vSpans_idle_0 (loop_up (tN T) (P := fun i => 0 ≤ i → Ru d kSpans_idle 4 [xO 5 p, xI (tN T), xI (cq (idN T) i.toNat), xI i] [] M Q) (fun i hi ih i0 => ?_) 0 hn.1 (by decide))
  have cb := cq_b (idN T) i.toNat
  refine vSpans_idle_4 ⟨fun y => ?_, fun y => ⟨fun y2 => by omega, fun y2 => ?_⟩⟩
  · rw [show i = tN T by omega]; exact h
  · rw [hs i i0 (by omega), z32_id (x := i + 1) (by omega) (by omega), Int.add_zero, z32_id (x := cq (idN T) i.toNat) (by omega) (by omega), z32_id (x := cq (idN T) i.toNat + 1) (by omega) (by omega)]
    refine ⟨by omega, fun z => ?_, fun z => ?_⟩
    · have ih' := ih (i + 1) (by omega) (by omega) (by omega)
      rw [cq_n (P := idN T) i0 z] at ih'
      exact ih'
    · have ih' := ih (i + 1) (by omega) (by omega) (by omega)
      rw [cq_y (P := idN T) i0 (Classical.not_not.mp z)] at ih'
      exact ih'
theorem qMo_idle (hw : tWF T) (hc : RT M (r + 1) 0 T) (h : ∀ N : xM, (∀ b j : Int, ¬ b = r + 11 → ¬ b = r + 12 → ¬ (b = r ∧ j = 12) → N b j = M b j) → Q (xI (cq (idN T) (tN T).toNat)) N) : Ru (d + 6) kMo_idle 0 [xO 9 r, xU, xU] [] M Q := by
  have hn := hw.1
  refine vMo_idle_0 (loop_up (tN T) (P := fun i => ∀ N : xM, 0 ≤ i → (∀ b j : Int, ¬ b = r + 11 → ¬ b = r + 12 → ¬ (b = r ∧ j = 12) → N b j = M b j) → Ru (d + 6) kMo_idle 4 [xO 9 r, xI (cq (idN T) i.toNat), xI i] [] N Q) (fun i hi ih N i0 hf => ?_) 0 hn.1 M (by decide) (fun _ _ _ _ _ => rfl))
  have cb := cq_b (idN T) i.toNat
  have hcN : RT N (r + 1) 0 T := by
    have e1 : N (r + 1) = M (r + 1) := funext fun j => hf _ _ (by omega) (by omega) (by omega)
    unfold RT at hc ⊢
    rw [e1]
    exact hc
  refine vMo_idle_4 ?_
  rw [hcN.1]
  refine ⟨by decide, fun y => ?_, fun y => ?_⟩
  · rw [show i = tN T by omega]; exact h N hf
  · refine qMo_servedBy hw hcN (fun N2 hf2 => vMo_idle_20 ?_)
    have hf3 : ∀ b j : Int, ¬ b = r + 11 → ¬ b = r + 12 → ¬ (b = r ∧ j = 12) → N2 b j = M b j := fun b j h7 h8 h9 => by rw [hf2 b j h7 h8 h9]; exact hf b j h7 h8 h9
    have ih' := ih (i + 1) (by omega) (by omega) N2 (by omega) hf3
    rw [z32_id (x := i + 1) (by omega) (by omega), Int.add_zero, z32_id (x := cq (idN T) i.toNat) (by omega) (by omega), z32_id (x := cq (idN T) i.toNat + 1) (by omega) (by omega)]
    refine ⟨fun z => ?_, fun z => ?_⟩
    · rw [cq_n (P := idN T) i0 z] at ih'
      exact ih'
    · rw [cq_y (P := idN T) i0 (Classical.not_not.mp z)] at ih'
      exact ih'
theorem isOut_u {o o2 : Int} (h : isOut T k o) (g : isOut T k o2) : o = o2 := by
  rcases h with ⟨h1, h2⟩ | ⟨h1, h2, h3, h4⟩ <;> rcases g with ⟨g1, g2⟩ | ⟨g1, g2, g3, g4⟩
  · omega
  · exact absurd g3 (h2 o2 g1 g2)
  · exact absurd h3 (g2 o h1 h2)
  · rcases (show o = o2 ∨ o < o2 ∨ o2 < o by omega) with e | e | e
    · exact e
    · exact absurd g3 (h4 o2 e g2)
    · exact absurd h3 (g4 o e h2)
theorem qMo_parentOf (hw : tWF T) (hc : RT M (r + 1) 0 T) (k0 : 0 ≤ k) (k1 : k < tN T) (h : ∀ o : Int, isOut T k o → Q (xI o) M) : Ru (d + 3) kMo_parentOf 0 [xO 9 r, xI k, xU, xU] [] M Q := by
  have hn := hw.1
  have hkk : inR T k (tV T k) := ⟨Int.le_refl _, by have := wd_pos (tL T k); omega⟩
  refine vMo_parentOf_0 (loop_up (tN T) (P := fun i => ∀ b : Int, 0 ≤ i → ((b = -1 ∧ ∀ j : Int, 0 ≤ j → j < i → j < k → ¬ inR T j (tV T k)) ∨ ((0 ≤ b ∧ b < i ∧ b < k) ∧ inR T b (tV T k) ∧ ∀ j : Int, b < j → j < i → j < k → ¬ inR T j (tV T k))) → Ru (d + 3) kMo_parentOf 4 [xO 9 r, xI k, xI b, xI i] [] M Q) (fun i hi ih b i0 hb => ?_) 0 hn.1 (-1) (by decide) (Or.inl ⟨rfl, fun j j0 j1 => by omega⟩))
  refine vMo_parentOf_4 ?_
  rw [hc.1, z32_id (x := i + 1) (by omega) (by omega)]
  refine ⟨by decide, fun y => h b ?_, fun y => ?_⟩
  · rcases hb with ⟨b1, b2⟩ | ⟨b1, b2, b3⟩
    · exact Or.inl ⟨b1, fun j j0 j1 => b2 j j0 (by omega) j1⟩
    · exact Or.inr ⟨b1.1, b1.2.2, b2, fun j j0 j1 => b3 j j0 (by omega) j1⟩
  · -- nothing comes by this one
    have skip : ¬ (i < k ∧ inR T i (tV T k)) → Ru (d + 3) kMo_parentOf 4 [xO 9 r, xI k, xI b, xI (i + 1)] [] M Q := fun z => by
      refine ih (i + 1) (by omega) (by omega) b (by omega) ?_
      rcases hb with ⟨b1, b2⟩ | ⟨b1, b2, b3⟩
      · refine Or.inl ⟨b1, fun j j0 j1 j2 z9 => ?_⟩
        by_cases e : j = i
        · subst e; exact z ⟨j2, z9⟩
        · exact b2 j j0 (by omega) j2 z9
      · refine Or.inr ⟨by omega, b2, fun j j0 j1 j2 z9 => ?_⟩
        by_cases e : j = i
        · subst e; exact z ⟨j2, z9⟩
        · exact b3 j j0 (by omega) j2 z9
    refine ⟨fun y2 => skip (by omega), fun y2 => ?_⟩
    have hri := (hc.2.2.1 i i0 (by omega)).2.1
    have hrk := (hc.2.2.1 k k0 k1).2.1
    rw [Int.zero_add] at hri hrk
    have hwi := hw.2.1 i i0 (by omega)
    have hwk := hw.2.1 k k0 k1
    have wp := wd_pos (tL T i)
    have wl := wd_le hwi.2.1.1
    rw [z32_id (x := 62 + i) (by omega) (by omega), z32_id (x := 62 + k) (by omega) (by omega), hri, hrk]
    refine ⟨by omega, by omega, fun y3 => skip (fun z => ?_), fun y3 => ?_⟩
    · have := nest hw i0 z.1 k1 z.2 hkk
      omega
    · refine qMo_valueOf hc hw k0 k1 (vMo_parentOf_45 (qMo_valueOf hc hw i0 (by omega) (vMo_parentOf_50 (qMo_behindOf hw hc (Int.le_refl _) (by decide) (by decide) i0 (by omega) (vMo_parentOf_59 ?_)))))
      rw [z64_id (by omega) (by omega)]
      refine qMo_isIn (fun g0 g1 => vMo_parentOf_64 ⟨fun _ => ?_, fun z => absurd (by decide) z⟩) (fun g => vMo_parentOf_64 ⟨fun z => absurd rfl z, fun _ => ?_⟩)
      · have hin : inR T i (tV T k) := ⟨g0, by omega⟩
        have hik : i < k := by
          refine Classical.byContradiction fun z => ?_
          have := nest hw k0 (show k < i by omega) (by omega) hkk hin
          omega
        have take : Ru (d + 3) kMo_parentOf 4 [xO 9 r, xI k, xI i, xI (i + 1)] [] M Q := ih (i + 1) (by omega) (by omega) i (by omega) (Or.inr ⟨by omega, hin, fun j j0 j1 => by omega⟩)
        rw [z32_id (x := i + 1) (by omega) (by omega)]
        refine ⟨fun _ => take, fun z => ?_⟩
        rcases hb with ⟨b1, b2⟩ | ⟨b1, b2, b3⟩
        · exact absurd b1 z
        · have hrb := (hc.2.2.1 b b1.1 (by omega)).2.1
          rw [Int.zero_add] at hrb
          rw [z32_id (x := 62 + i) (by omega) (by omega), z32_id (x := 62 + b) (by omega) (by omega), hri, hrb]
          have := nest hw b1.1 b1.2.1 (by omega) b2 hin
          exact ⟨by omega, by omega, fun z2 => by omega, fun _ => take⟩
      · rw [z32_id (x := i + 1) (by omega) (by omega)]
        exact skip (fun z => g ⟨z.2.1, by have := z.2.2; omega⟩)
/-- without its rule an address has the rule around it -/
theorem out_rlB (hw : tWF T) {a o : Int} (e : 0 ≤ rl T a) (h : isOut T (rl T a) o) : rlB T a (rl T a) (tN T).toNat = o := by
  have hr := rl_in hw a
  have hra := hr.2.2 e
  have hn := hw.1
  have wp := wd_pos (tL T (rl T a))
  have hself : inR T (rl T a) (tV T (rl T a)) := ⟨Int.le_refl _, by omega⟩
  have mx9 : ∀ j : Int, 0 ≤ j → j < tN T → inR T j a → j ≤ rl T a := fun j j0 j1 hj => rlB_mx (n := (tN T).toNat) j0 (by omega) hj (by omega)
  have down : ∀ j : Int, 0 ≤ j → j < rl T a → inR T j a → inR T j (tV T (rl T a)) := fun j j0 j1 hj => by
    have := nest hw j0 j1 hr.2.1 hj hra
    exact ⟨this.2.1, by omega⟩
  rcases h with ⟨h1, h2⟩ | ⟨h1, h2, h3, h4⟩
  · rw [h1]
    refine rlB_no (fun j j0 j1 hj => ?_)
    have := mx9 j j0 (by omega) hj
    by_cases ej : j = rl T a
    · exact ej
    · exact absurd (down j j0 (by omega) hj) (h2 j j0 (by omega))
  · refine rlB_eq h1 (by omega) ?_ (by omega) (fun j j0 j1 hj => ?_)
    · have := nest hw h1 h2 hr.2.1 h3 hself
      have := hra.1
      have := hra.2
      exact ⟨by have := h3.1; omega, by omega⟩
    · have := mx9 j (by omega) (by omega) hj
      by_cases ej : j = rl T a
      · exact ej
      · exact absurd (down j (by omega) (by omega) hj) (h4 j j0 (by omega))
theorem qTable_ruleOf {a : Int} (hw : tWF T) (hc : CT M t T) (h : Q (xI (rl T a)) M) : Ru (d + 1) kTable_ruleOf 0 [xO 6 t, xL a, xU, xU, xU] [] M Q := by
  have hn := hw.1
  refine vTable_ruleOf_0 (loop_up (tN T) (P := fun i => 0 ≤ i → Ru (d + 1) kTable_ruleOf 5 [xO 6 t, xL a, xU, xI (rlB T a (-1) i.toNat), xI i] [] M Q) (fun i hi ih i0 => ?_) 0 hn.1 (by decide))
  refine vTable_ruleOf_5 ?_
  rw [hc.1]
  refine ⟨fun y => ?_, fun y => ⟨fun y2 => by omega, fun y2 => ?_⟩⟩
  · have e : i = tN T := by omega
    subst e
    exact h
  · obtain ⟨c1, c2, -⟩ := hc.2.1 i i0 (by omega)
    obtain ⟨hv, hl, -⟩ := hw.2.1 i i0 (by omega)
    have wp := wd_pos (tL T i)
    have wl := wd_le hl.1
    have nx := ih (i + 1) (by omega) (by omega) (by omega)
    rw [rlB_s i0] at nx
    rw [c1, c2, z32_id (x := i + 1) (by omega) (by omega)]
    refine ⟨by omega, fun y3 => ?_, fun y3 => ⟨by omega, by omega, qRS_widthOf hl.1 hl.2 (vTable_ruleOf_51 ?_)⟩⟩
    · rw [if_neg (fun z => by have := z.1.1; omega)] at nx
      exact nx
    · rw [z64_id (by omega) (by omega), z32_id (x := i + 1) (by omega) (by omega)]
      refine ⟨fun y4 => ?_, fun y4 => ?_⟩
      · rw [if_neg (fun z => by have := z.1.2; omega)] at nx
        exact nx
      · rw [if_pos ⟨⟨by omega, by omega⟩, by omega⟩] at nx
        exact nx
theorem qMo_hopWithout {a : Int} (hw : tWF T) (hc : RT M (r + 1) 0 T) (h0 : rl T a = -1 → Q (xI (-1)) M) (h1 : ∀ o : Int, 0 ≤ rl T a → o = rlB T a (rl T a) (tN T).toNat → (o = -1 ∨ (0 ≤ o ∧ o < tN T)) → Q (xI (if o = -1 then -1 else tH T o)) M) : Ru (d + 4) kMo_hopWithout 0 [xO 9 r, xL a, xU, xU, xU] [] M Q := by
  have hr := rl_in hw a
  have hn := hw.1
  refine vMo_hopWithout_0 (qMo_ruleOf hw hc (Int.le_refl _) (by decide) (by decide) (vMo_hopWithout_10 ⟨fun y => ?_, fun y => h0 (Classical.not_not.mp y)⟩))
  have y' : ¬ rl T a = -1 := y
  have hb := rlB_in T a (rl T a) (tN T).toNat
  refine qMo_ruleOf hw hc (Int.le_refl _) (by decide) (by decide) (vMo_hopWithout_28 ?_)
  have h' := h1 _ (by omega) rfl (by omega)
  show (¬ rlB T a (rl T a) (tN T).toNat = -1 → _) ∧ _
  refine ⟨fun y2 => ?_, fun y2 => ?_⟩
  · have e := (hc.2.2.1 (rlB T a (rl T a) (tN T).toNat) (by omega) (by omega)).2.2
    rw [Int.zero_add] at e
    rw [if_neg y2] at h'
    have ez : z32 (122 + rlB T a (rl T a) (tN T).toNat) = 122 + rlB T a (rl T a) (tN T).toNat := z32_id (by omega) (by omega)
    refine ⟨by show 0 ≤ z32 (122 + rlB T a (rl T a) (tN T).toNat) ∧ z32 (122 + rlB T a (rl T a) (tN T).toNat) < 259; rw [ez]; omega, ?_⟩
    show Q (xI (M (r + 1) (z32 (122 + rlB T a (rl T a) (tN T).toNat)))) M
    rw [ez, e]
    exact h'
  · rw [if_pos (show rlB T a (rl T a) (tN T).toNat = -1 from Classical.not_not.mp y2)] at h'
    exact h'
/-- hops that are there -/
theorem qTable_hops (hc : CT M t T) (h : Q (xI (cq (fun g => 0 < tU T g) (60 : Int).toNat)) M) : Ru d kTable_hops 0 [xO 6 t, xU, xU] [] M Q := by
  refine vTable_hops_0 (loop_up 60 (P := fun i => 0 ≤ i → Ru d kTable_hops 4 [xO 6 t, xI (cq (fun g => 0 < tU T g) i.toNat), xI i] [] M Q) (fun i hi ih i0 => ?_) 0 (by decide) (by decide))
  have cb := cq_b (fun g => 0 < tU T g) i.toNat
  refine vTable_hops_4 ⟨fun y => ?_, fun y => ⟨by omega, ?_⟩⟩
  · have e : i = 60 := by omega
    subst e
    exact h
  · rw [(hc.2.2.1 i i0 (by omega)).1, Int.add_zero, z32_id (x := i + 1) (by omega) (by omega), z32_id (x := cq (fun g => 0 < tU T g) i.toNat) (by omega) (by omega), z32_id (x := cq (fun g => 0 < tU T g) i.toNat + 1) (by omega) (by omega)]
    have ih' := ih (i + 1) (by omega) (by omega) (by omega)
    refine ⟨fun z => ?_, fun z => ?_⟩
    · rw [cq_n (P := fun g => 0 < tU T g) i0 (by omega)] at ih'
      exact ih'
    · rw [cq_y (P := fun g => 0 < tU T g) i0 (by omega)] at ih'
      exact ih'
theorem tK_iff (hw : tWF T) {g : Int} (g0 : 0 ≤ g) : ¬ tK T g = -1 ↔ (g < 60 ∧ 0 < tU T g) := by
  constructor
  · intro h
    refine Classical.byContradiction fun z => h ?_
    exact if_neg (fun z2 => z ⟨z2.2.1, z2.2.2⟩)
  · intro h
    rw [tK_pos g0 h.1 h.2]
    have := hw.2.2.2.1 g g0 h.1 h.2
    omega
theorem qMo_hops (hw : tWF T) (hc : RT M (r + 1) 0 T) (h : Q (xI (cq (fun g => 0 < tU T g) (60 : Int).toNat)) M) : Ru d kMo_hops 0 [xO 9 r, xU, xU] [] M Q := by
  refine vMo_hops_0 ?_
  have main : ∀ i : Int, i ≤ 61 → 0 ≤ i → Ru d kMo_hops 4 [xO 9 r, xI (cq (fun g => 0 < tU T g) (if i ≤ 60 then i else 60).toNat), xI i] [] M Q := by
    refine loop_up 61 (fun i hi ih i0 => ?_)
    have cb := cq_b (fun g => 0 < tU T g) (if i ≤ 60 then i else 60).toNat
    have hib : (if i ≤ 60 then i else 60) ≤ 60 := by split <;> omega
    refine vMo_hops_4 ⟨fun y => ?_, fun y => ?_⟩
    · rw [if_neg (by omega)]
      exact h
    · have e := hc.2.2.2.1 i i0 (by omega)
      rw [Int.zero_add] at e
      rw [z32_id (x := 182 + i) (by omega) (by omega), e, Int.add_zero, z32_id (x := i + 1) (by omega) (by omega), z32_id (x := cq (fun g => 0 < tU T g) (if i ≤ 60 then i else 60).toNat) (by omega) (by omega), z32_id (x := cq (fun g => 0 < tU T g) (if i ≤ 60 then i else 60).toNat + 1) (by omega) (by omega)]
      have ih' := ih (i + 1) (by omega) (by omega) (by omega)
      refine ⟨by omega, fun z => ?_, fun z => ?_⟩
      · have z2 := (tK_iff hw i0).mp z
        rw [if_pos (by omega), cq_y (P := fun g => 0 < tU T g) i0 z2.2] at ih'
        rw [if_pos (by omega)]
        exact ih'
      · by_cases e60 : i = 60
        · rw [if_neg (by omega)] at ih'
          rw [if_pos (by omega), e60]
          rw [e60] at ih'
          exact ih'
        · rw [if_pos (by omega), cq_n (P := fun g => 0 < tU T g) i0 (fun z3 => z ((tK_iff hw i0).mpr ⟨by omega, z3⟩))] at ih'
          rw [if_pos (by omega)]
          exact ih'
  exact main 0 (by decide) (by decide)
theorem qMo_isHop {g : Int} (hw : tWF T) (hc : RT M (r + 1) 0 T) (h1 : 0 ≤ g → g < 60 → 0 < tU T g → Q (xI 1) M) (h0 : ¬ (0 ≤ g ∧ g < 60 ∧ 0 < tU T g) → Q (xI 0) M) : Ru (d + 1) kMo_isHop 0 [xO 9 r, xI g] [] M Q := by
  refine vMo_isHop_0 (qMo_isIn (fun a b => vMo_isHop_9 ⟨fun z => absurd z (by decide), fun _ => ?_⟩) (fun z => vMo_isHop_9 ⟨fun _ => h0 (by omega), fun z2 => absurd rfl z2⟩))
  have e := hc.2.2.2.1 g a b
  rw [Int.zero_add] at e
  rw [z32_id (x := 182 + g) (by omega) (by omega), e]
  refine ⟨by omega, fun z => h0 (fun z2 => (tK_iff hw a).mpr ⟨z2.2.1, z2.2.2⟩ z), fun z => ?_⟩
  have := (tK_iff hw a).mp z
  exact h1 a this.1 this.2
end Served

/-! HOW MANY ADDRESSES DIFFER; how many a hop has. -/
theorem cq_out {P : Int → Prop} {a : Int} (a0 : 0 ≤ a) : ∀ k : Nat, (∀ j : Int, a ≤ j → j < a + k → ¬ P j) → cq P (a + k).toNat = cq P a.toNat
  | 0, _ => by rw [show a + ((0 : Nat) : Int) = a by omega]
  | k + 1, h => by
    have ih := cq_out (P := P) a0 k (fun j j0 j1 => h j j0 (by omega))
    rw [show a + ((k + 1 : Nat) : Int) = a + k + 1 by omega, cq_n (by omega) (h _ (by omega) (by omega)), ih]
theorem cq_no {P : Int → Prop} {a b : Int} (a0 : 0 ≤ a) (ab : a ≤ b) (h : ∀ j : Int, a ≤ j → j < b → ¬ P j) : cq P b.toNat = cq P a.toNat := by
  have := cq_out (P := P) a0 (b - a).toNat (fun j j0 j1 => h j j0 (by omega))
  rw [show a + ((b - a).toNat : Int) = b by omega] at this
  exact this
theorem cq_all {P : Int → Prop} {a b : Int} (a0 : 0 ≤ a) (ab : a ≤ b) (h : ∀ j : Int, a ≤ j → j < b → P j) : cq P b.toNat = cq P a.toNat + (b - a) := by
  have := cq_run (P := P) a0 (b - a).toNat (fun j j0 j1 => h j j0 (by omega))
  rw [show a + ((b - a).toNat : Int) = b by omega] at this
  omega
theorem cq_z {P : Int → Prop} : ∀ n : Nat, cq P n = 0 → ∀ k : Int, 0 ≤ k → k < n → ¬ P k
  | 0, _, k, k0, k1 => by omega
  | n + 1, h, k, k0, k1 => by
    have hb := cq_b P n
    by_cases e : P n
    · have := cq_y (P := P) (n := (n : Int)) (by omega) e
      rw [show ((n : Int) + 1).toNat = n + 1 by omega, Int.toNat_natCast] at this
      omega
    · have := cq_n (P := P) (n := (n : Int)) (by omega) e
      rw [show ((n : Int) + 1).toNat = n + 1 by omega, Int.toNat_natCast] at this
      by_cases ek : k = n
      · rw [ek]; exact e
      · exact cq_z n (by omega) k k0 (by omega)
def dP (T1 T2 : TB) : Int → Prop := fun a => ¬ cod T1 a = cod T2 a
def isFst (T1 T2 : TB) (x : Int) : Prop := (x = -2 ∧ ∀ a : Int, 0 ≤ a → a < 4294967296 → ¬ dP T1 T2 a) ∨ ((0 ≤ x ∧ x < 4294967296) ∧ dP T1 T2 x ∧ ∀ a : Int, 0 ≤ a → a < x → ¬ dP T1 T2 a)
theorem isFst_u {T1 T2 : TB} {x y : Int} (h : isFst T1 T2 x) (g : isFst T1 T2 y) : x = y := by
  rcases h with ⟨h1, h2⟩ | ⟨h1, h2, h3⟩ <;> rcases g with ⟨g1, g2⟩ | ⟨g1, g2, g3⟩
  · omega
  · exact absurd g2 (h2 y g1.1 g1.2)
  · exact absurd h2 (g2 x h1.1 h1.2)
  · rcases (show x = y ∨ x < y ∨ y < x by omega) with e | e | e
    · exact e
    · exact absurd h2 (g3 x h1.1 e)
    · exact absurd g2 (h3 y g1.1 e)
section DifMath
variable {T1 T2 : TB} {m1 m2 : Int} {F1 K1 F2 K2 : Int → Int}
def dI (m1 m2 : Int) (F1 F2 : Int → Int) (i j x : Int) : Prop := (0 ≤ i ∧ i ≤ m1) ∧ (0 ≤ j ∧ j ≤ m2) ∧ (0 ≤ x ∧ x ≤ 4294967296) ∧ (x < 4294967296 → i < m1 ∧ j < m2 ∧ (F1 i ≤ x ∧ F2 j ≤ x) ∧ (x < nxF F1 m1 i ∧ x < nxF F2 m2 j) ∧ (x = F1 i ∨ x = F2 j)) ∧ (x = 4294967296 → i = m1 ∨ j = m2)
theorem dI_0 (h1 : isRows T1 m1 F1 K1) (h2 : isRows T2 m2 F2 K2) : dI m1 m2 F1 F2 0 0 0 := by
  have a1 := h1.1
  have a2 := h2.1
  have b1 := h1.2.2.1 0 (by decide) (by omega)
  have b2 := h2.2.2.1 0 (by decide) (by omega)
  have c1 := h1.2.1
  have c2 := h2.2.1
  exact ⟨by omega, by omega, by omega, fun _ => ⟨by omega, by omega, by omega, by omega, by omega⟩, fun z => by omega⟩
theorem rows_nx (h1 : isRows T1 m1 F1 K1) {i : Int} (i0 : 0 ≤ i) (i1 : i < m1) : nxF F1 m1 i ≤ 4294967296 ∧ (nxF F1 m1 i < 4294967296 → i + 1 < m1 ∧ F1 (i + 1) = nxF F1 m1 i) ∧ (nxF F1 m1 i = 4294967296 → i + 1 = m1) := by
  by_cases e : i + 1 < m1
  · have hb := rows_in h1 (i := i + 1) (by omega) e
    rw [nxF_in e]
    exact ⟨by omega, fun _ => ⟨e, rfl⟩, fun z => by omega⟩
  · rw [nxF_end e]
    exact ⟨by omega, fun z => by omega, fun _ => by omega⟩
theorem dI_s (h1 : isRows T1 m1 F1 K1) (h2 : isRows T2 m2 F2 K2) {i j x y : Int} (hI : dI m1 m2 F1 F2 i j x) (hx : x < 4294967296) (hy : (y = nxF F1 m1 i ∧ y ≤ nxF F2 m2 j) ∨ (y = nxF F2 m2 j ∧ y ≤ nxF F1 m1 i)) : (∀ i' j' : Int, (nxF F1 m1 i = y → i' = i + 1) → (¬ nxF F1 m1 i = y → i' = i) → (nxF F2 m2 j = y → j' = j + 1) → (¬ nxF F2 m2 j = y → j' = j) → dI m1 m2 F1 F2 i' j' y) ∧ (x < y ∧ y ≤ 4294967296) ∧ (K1 i = K2 j → ∀ a : Int, x ≤ a → a < y → ¬ dP T1 T2 a) ∧ (¬ K1 i = K2 j → ∀ a : Int, x ≤ a → a < y → dP T1 T2 a) := by
  obtain ⟨d1, d2, d3, d4, d5⟩ := hI
  obtain ⟨e1, e2, e3, e4, e5⟩ := d4 hx
  have n1 := rows_nx h1 d1.1 e1
  have n2 := rows_nx h2 d2.1 e2
  have hc : ∀ a : Int, x ≤ a → a < y → cod T1 a = K1 i ∧ cod T2 a = K2 j := fun a a0 a1 => ⟨h1.2.2.2.1 i d1.1 e1 a (by omega) (by omega), h2.2.2.2.1 j d2.1 e2 a (by omega) (by omega)⟩
  refine ⟨fun i' j' hi hi2 hj hj2 => ?_, by omega, fun e a a0 a1 z => z (by rw [(hc a a0 a1).1, (hc a a0 a1).2, e]), fun e a a0 a1 z => e (by rw [← (hc a a0 a1).1, ← (hc a a0 a1).2, z])⟩
  have nn1 : i + 1 < m1 → nxF F1 m1 i < nxF F1 m1 (i + 1) := fun z => by
    rw [nxF_in z]
    exact h1.2.2.1 (i + 1) (by omega) z
  have nn2 : j + 1 < m2 → nxF F2 m2 j < nxF F2 m2 (j + 1) := fun z => by
    rw [nxF_in z]
    exact h2.2.2.1 (j + 1) (by omega) z
  by_cases q1 : nxF F1 m1 i = y <;> by_cases q2 : nxF F2 m2 j = y
  · rw [hi q1, hj q2]
    refine ⟨by omega, by omega, by omega, fun z => ?_, fun z => by omega⟩
    have k1 := n1.2.1 (by omega)
    have k2 := n2.2.1 (by omega)
    have := nn1 k1.1
    have := nn2 k2.1
    exact ⟨by omega, by omega, by omega, by omega, by omega⟩
  · rw [hi q1, hj2 q2]
    refine ⟨by omega, by omega, by omega, fun z => ?_, fun z => by omega⟩
    have k1 := n1.2.1 (by omega)
    have := nn1 k1.1
    exact ⟨by omega, by omega, by omega, by omega, by omega⟩
  · rw [hi2 q1, hj q2]
    refine ⟨by omega, by omega, by omega, fun z => ?_, fun z => by omega⟩
    have k2 := n2.2.1 (by omega)
    have := nn2 k2.1
    exact ⟨by omega, by omega, by omega, by omega, by omega⟩
  · omega
end DifMath
section Dif
variable {d : Nat} {M : xM} {Q : xQ} {T1 T2 T : TB} {p q f r : Int}
theorem qSpans_differing (hS1 : SR M p T1) (hS2 : SR M q T2) (h0 : f = 0 → Q (xL (cq (dP T1 T2) (4294967296 : Int).toNat)) M) (h1 : ¬ f = 0 → ∀ x : Int, isFst T1 T2 x → Q (xL x) M) : Ru d kSpans_differing 0 [xO 5 p, xO 5 q, xI f, xU, xU, xU, xU, xU, xU, xU, xU, xU, xU] [] M Q := by
  obtain ⟨r1, b1, l1, -⟩ := hS1
  obtain ⟨r2, b2, l2, -⟩ := hS2
  refine vSpans_differing_0 ?_
  have main : ∀ x : Int, x ≤ 4294967296 → ∀ (i j t : Int) (w7 w9 w11 : xV), (0 ≤ t ∧ t ≤ i + j) → dI (M p 0) (M q 0) (M (p + 1)) (M (q + 1)) i j x → (¬ f = 0 → cq (dP T1 T2) x.toNat = 0) → Ru d kSpans_differing 11 [xO 5 p, xO 5 q, xI f, xL (cq (dP T1 T2) x.toNat), xU, xI i, xI j, xI t, w7, xU, w9, xU, w11] [] M Q := by
    refine loop_up 4294967296 (fun x hx ih i j t w7 w9 w11 ht hI hf => ?_)
    have hI' := hI
    obtain ⟨d1, d2, d3, d4, d5⟩ := hI'
    have cb := cq_b (dP T1 T2) x.toNat
    have fin : x = 4294967296 → (f = 0 → Q (xL (cq (dP T1 T2) x.toNat)) M) ∧ (¬ f = 0 → Q (xL (-2)) M) := fun e => by
      subst e
      exact ⟨h0, fun z => h1 z (-2) (Or.inl ⟨rfl, fun a a0 a1 => cq_z _ (hf z) a a0 (by omega)⟩)⟩
    refine vSpans_differing_11 ⟨fun y => fin ?_, fun _ => ⟨fun y => fin ?_, fun y => ⟨fun y2 => by omega, fun y2 => ⟨fun y3 => fin ?_, fun y3 => ⟨fun y4 => ?_, fun y4 => by omega⟩⟩⟩⟩⟩
    · refine Classical.byContradiction fun z => ?_
      have := d4 (by omega)
      omega
    · refine Classical.byContradiction fun z => ?_
      have := d4 (by omega)
      omega
    · refine Classical.byContradiction fun z => ?_
      have := d4 (by omega)
      omega
    · have hx2 : x < 4294967296 := by
        refine Classical.byContradiction fun z => ?_
        have := d5 (by omega)
        omega
      obtain ⟨e1, e2, e3, e4, e5⟩ := d4 hx2
      have q1 := l1 i d1.1 e1
      have q2 := l2 j d2.1 e2
      have n1 := rows_nx r1 d1.1 e1
      have n2 := rows_nx r2 d2.1 e2
      have emx : mx (M (p + 1) i) (M (q + 1) j) = x := by
        unfold mx
        split <;> omega
      have hmn : ∃ y : Int, mn (M (p + 2) i) (M (q + 2) j) = y - 1 ∧ ((y = nxF (M (p + 1)) (M p 0) i ∧ y ≤ nxF (M (q + 1)) (M q 0) j) ∨ (y = nxF (M (q + 1)) (M q 0) j ∧ y ≤ nxF (M (p + 1)) (M p 0) i)) := by
        unfold mn
        split
        · exact ⟨nxF (M (q + 1)) (M q 0) j, by omega, by omega⟩
        · exact ⟨nxF (M (p + 1)) (M p 0) i, by omega, by omega⟩
      obtain ⟨y0, hy0, hy1⟩ := hmn
      obtain ⟨s1, s2, s3, s4⟩ := dI_s r1 r2 hI hx2 hy1
      rw [emx, hy0]
      have next : ∀ (w11 : xV) (v : Int), v = cq (dP T1 T2) y0.toNat → (¬ f = 0 → cq (dP T1 T2) y0.toNat = 0) → Ru d kSpans_differing 126 [xO 5 p, xO 5 q, xI f, xL v, xU, xI i, xI j, xI t, xL x, xU, xL (y0 - 1), xU, w11] [] M Q := fun w11 v hv hf2 => by
        subst hv
        refine vSpans_differing_126 ?_
        rw [q1, q2, Int.add_zero, Int.add_zero, z32_id (x := i) (by omega) (by omega), z32_id (x := j) (by omega) (by omega), z32_id (x := i + 1) (by omega) (by omega), z32_id (x := j + 1) (by omega) (by omega), z32_id (x := t + 1) (by omega) (by omega)]
        refine ⟨by omega, fun z1 => ⟨by omega, fun z2 => ⟨fun _ => by omega, fun z => absurd rfl z⟩, fun z2 => ⟨fun _ => ?_, fun z => absurd rfl z⟩⟩, fun z1 => ⟨by omega, fun z2 => ⟨fun z => absurd z (by decide), fun _ => ?_⟩, fun z2 => ⟨fun z => absurd z (by decide), fun _ => ?_⟩⟩⟩
        · exact ih y0 (by omega) (by omega) _ _ _ _ _ _ (by omega) (s1 _ _ (fun _ => rfl) (fun z => by omega) (fun z => by omega) (fun _ => rfl)) hf2
        · exact ih y0 (by omega) (by omega) _ _ _ _ _ _ (by omega) (s1 _ _ (fun z => by omega) (fun _ => rfl) (fun _ => rfl) (fun z => by omega)) hf2
        · exact ih y0 (by omega) (by omega) _ _ _ _ _ _ (by omega) (s1 _ _ (fun _ => rfl) (fun z => by omega) (fun _ => rfl) (fun z => by omega)) hf2
      refine ⟨by omega, by omega, by omega, by omega, by omega, by omega, fun z => ?_, fun z => ⟨fun zf => ?_, fun zf => ?_⟩⟩
      · have e9 := cq_no (P := dP T1 T2) d3.1 (by omega) (s3 z)
        exact next _ _ e9.symm (fun z9 => by rw [e9]; exact hf z9)
      · have e9 := cq_all (P := dP T1 T2) d3.1 (by omega) (s4 z)
        have cb2 := cq_b (dP T1 T2) y0.toNat
        rw [z64_id (x := y0 - 1 - x) (by omega) (by omega), z64_id (x := y0 - 1 - x + 1) (by omega) (by omega), z64_id (by omega) (by omega)]
        exact next _ _ (by omega) (fun z9 => absurd zf z9)
      · exact h1 zf x (Or.inr ⟨⟨d3.1, hx2⟩, s4 z x (Int.le_refl _) s2.1, fun a a0 a1 => cq_z _ (hf zf) a a0 (by omega)⟩)
  have := main 0 (by decide) 0 0 0 xU xU xU (by decide) (dI_0 r1 r2) (fun _ => rfl)
  exact this
theorem qMo_differsL {s f : Int} (hR1 : RW M r 0 T1) (hR2 : RW M r 1 T2) (h0 : f = 0 → Q (xL (cq (dP T1 T2) (4294967296 : Int).toNat)) M) (h1 : ¬ f = 0 → ∀ x : Int, isFst T1 T2 x → Q (xL x) M) : Ru (d + 1) kMo_differs 44 [xO 9 r, xI s, xI f, xU, xU, xU, xU, xU, xU, xU, xU, xU, xU] [] M Q := by
  have r1 := hR1.1
  have r2 := hR2.1
  have b1 := hR1.2.1
  have b2 := hR2.2.1
  refine vMo_differs_44 ?_
  have main : ∀ x : Int, x ≤ 4294967296 → ∀ (i j fi : Int) (w11 : xV), dI (M (r + 5) 0) (M (r + 5) 1) (fun i => M (r + 6) (124 * 0 + i)) (fun i => M (r + 6) (124 * 1 + i)) i j x → ((cq (dP T1 T2) x.toNat = 0 ∧ fi = -2) ∨ (0 < cq (dP T1 T2) x.toNat ∧ isFst T1 T2 fi)) → Ru (d + 1) kMo_differs 60 [xO 9 r, xI s, xI f, xL (cq (dP T1 T2) x.toNat), xU, xL fi, xU, xI i, xI j, xL x, xU, w11, xU] [] M Q := by
    refine loop_up 4294967296 (fun x hx ih i j fi w11 hI hf => ?_)
    have hI' := hI
    obtain ⟨d1, d2, d3, d4, d5⟩ := hI'
    have cb := cq_b (dP T1 T2) x.toNat
    refine vMo_differs_60 ⟨fun y => ?_, fun y => ?_⟩
    · have e : x = 4294967296 := by omega
      subst e
      refine ⟨fun z => h1 z fi ?_, fun z => h0 (Classical.not_not.mp z)⟩
      rcases hf with ⟨a1, a2⟩ | ⟨a1, a2⟩
      · exact Or.inl ⟨a2, fun a a0 a3 => cq_z _ a1 a a0 (by omega)⟩
      · exact a2
    · obtain ⟨e1, e2, e3, e4, e5⟩ := d4 (by omega)
      have n1 := rows_nx r1 d1.1 e1
      have n2 := rows_nx r2 d2.1 e2
      generalize hn1 : nxF (fun i => M (r + 6) (124 * 0 + i)) (M (r + 5) 0) i = nx1 at *
      generalize hn2 : nxF (fun i => M (r + 6) (124 * 1 + i)) (M (r + 5) 1) j = nx2 at *
      have bh1 : ∀ {Q2 : xQ}, Q2 (xL nx1) M → Ru d kMo_behindRow 0 [xO 9 r, xI 0, xI i] [] M Q2 := fun hq => qMo_behindRow hR1 (Or.inl rfl) d1.1 e1 (by rw [hn1]; exact hq)
      have bh2 : ∀ {Q2 : xQ}, Q2 (xL nx2) M → Ru d kMo_behindRow 0 [xO 9 r, xI 1, xI j] [] M Q2 := fun hq => qMo_behindRow hR2 (Or.inr rfl) d2.1 e2 (by rw [hn2]; exact hq)
      have step : ∀ y0 : Int, ((y0 = nx1 ∧ y0 ≤ nx2) ∨ (y0 = nx2 ∧ y0 ≤ nx1)) → Ru (d + 1) kMo_differs 104 [xO 9 r, xI s, xI f, xL (cq (dP T1 T2) x.toNat), xU, xL fi, xU, xI i, xI j, xL x, xU, w11, xU] [xL y0] M Q := fun y0 hy1 => by
        obtain ⟨s1, s2, s3, s4⟩ := dI_s r1 r2 hI (by omega) (y := y0) (by rw [hn1, hn2]; exact hy1)
        rw [hn1, hn2] at s1
        have adv : ∀ (v fi2 : Int), v = cq (dP T1 T2) y0.toNat → ((cq (dP T1 T2) y0.toNat = 0 ∧ fi2 = -2) ∨ (0 < cq (dP T1 T2) y0.toNat ∧ isFst T1 T2 fi2)) → Ru (d + 1) kMo_differs 149 [xO 9 r, xI s, xI f, xL v, xU, xL fi2, xU, xI i, xI j, xL x, xU, xL y0, xU] [] M Q := fun v fi2 hv hf2 => by
          subst hv
          refine vMo_differs_149 (bh1 (vMo_differs_158 ?_))
          rw [Int.add_zero, z32_id (x := i) (by omega) (by omega), z32_id (x := i + 1) (by omega) (by omega)]
          refine ⟨fun z1 => bh2 (vMo_differs_181 ?_), fun z1 => bh2 (vMo_differs_181 ?_)⟩
          · rw [Int.add_zero, z32_id (x := j) (by omega) (by omega), z32_id (x := j + 1) (by omega) (by omega)]
            exact ⟨fun z2 => by omega, fun z2 => ih y0 (by omega) (by omega) _ _ _ _ (s1 _ _ (fun z => absurd z z1) (fun _ => rfl) (fun _ => rfl) (fun z => absurd z z2)) hf2⟩
          · rw [Int.add_zero, z32_id (x := j) (by omega) (by omega), z32_id (x := j + 1) (by omega) (by omega)]
            exact ⟨fun z2 => ih y0 (by omega) (by omega) _ _ _ _ (s1 _ _ (fun _ => rfl) (fun z => absurd z z1) (fun z => absurd z z2) (fun _ => rfl)) hf2, fun z2 => ih y0 (by omega) (by omega) _ _ _ _ (s1 _ _ (fun _ => rfl) (fun z => absurd z z1) (fun _ => rfl) (fun z => absurd z z2)) hf2⟩
        refine vMo_differs_104 ?_
        rw [z32_id (x := 124 + j) (by omega) (by omega)]
        rw [show (124 : Int) * 0 + i = i by omega, show (124 : Int) * 1 + j = 124 + j by omega] at s3 s4
        refine ⟨by omega, by omega, fun z => ?_, fun z => ?_⟩
        · have e9 := cq_no (P := dP T1 T2) d3.1 (by omega) (s3 z)
          exact adv _ _ e9.symm (by rw [e9]; exact hf)
        · have e9 := cq_all (P := dP T1 T2) d3.1 (by omega) (s4 z)
          have cb2 := cq_b (dP T1 T2) y0.toNat
          rw [z64_id (x := y0 - x) (by omega) (by omega), z64_id (by omega) (by omega)]
          refine ⟨fun z2 => adv _ _ (by omega) ?_, fun z2 => adv _ _ (by omega) (Or.inr ⟨by omega, Or.inr ⟨by omega, s4 z x (Int.le_refl _) s2.1, fun a a0 a1 => cq_z _ (Classical.not_not.mp z2) a a0 (by omega)⟩⟩)⟩
          rcases hf with ⟨a1, a2⟩ | ⟨a1, a2⟩
          · exact absurd a1 z2
          · exact Or.inr ⟨by omega, a2⟩
      refine bh1 (vMo_differs_76 (bh2 (vMo_differs_83 ⟨fun y2 => bh2 (step nx2 (by omega)), fun y2 => bh1 (vMo_differs_94 (step nx1 (by omega)))⟩)))
  have := main 0 (by decide) 0 0 (-2) xU (dI_0 r1 r2) (Or.inl ⟨rfl, rfl⟩)
  exact this
/-- a hop that is there, or none -/
def okH (T : TB) (g : Int) : Prop := g = -1 ∨ ((0 ≤ g ∧ g < 60) ∧ 0 < tU T g)
theorem hk_iff (hw : tWF T) {g a : Int} (hg : okH T g) : cod T a = hk T g ↔ hp T a = g := by
  have ha := hp_in hw a
  rw [cod_hp hw a]
  constructor
  · intro e
    unfold hk at e
    by_cases ea : hp T a = -1
    · rw [if_pos ea] at e
      rcases hg with hg | hg
      · omega
      · rw [if_neg (by omega), tK_pos hg.1.1 hg.1.2 hg.2] at e
        have := hw.2.2.2.1 g hg.1.1 hg.1.2 hg.2
        omega
    · rw [if_neg ea, tK_pos (by omega) ha.2.1 (ha.2.2 (by omega))] at e
      rcases hg with hg | hg
      · rw [if_pos hg] at e
        have := hw.2.2.2.1 (hp T a) (by omega) ha.2.1 (ha.2.2 (by omega))
        omega
      · rw [if_neg (by omega), tK_pos hg.1.1 hg.1.2 hg.2] at e
        exact hw.2.2.2.2.1 _ _ (by omega) ha.2.1 hg.1.1 hg.1.2 (ha.2.2 (by omega)) hg.2 e
  · intro e; rw [e]
theorem qSpans_addressesWith {g : Int} (hS : SR M p T) (h : Q (xL (cq (fun a => hp T a = g) (4294967296 : Int).toNat)) M) : Ru d kSpans_addressesWith 0 [xO 5 p, xI g, xU, xU, xU] [] M Q := by
  obtain ⟨r1, b1, l1, hh⟩ := hS
  refine vSpans_addressesWith_0 ?_
  have hm := r1.1
  have main : ∀ i : Int, i ≤ M p 0 → ∀ x : Int, 0 ≤ i → (i < M p 0 → x = M (p + 1) i) → (i = M p 0 → x = 4294967296) → Ru d kSpans_addressesWith 5 [xO 5 p, xI g, xL (cq (fun a => hp T a = g) x.toNat), xU, xI i] [] M Q := by
    refine loop_up (M p 0) (fun i hi ih x i0 x0 x1 => ?_)
    have cb := cq_b (fun a => hp T a = g) x.toNat
    refine vSpans_addressesWith_5 ⟨fun y => ?_, fun y => ⟨fun y2 => by omega, fun y2 => ?_⟩⟩
    · rw [x1 (by omega)]; exact h
    · have ex := x0 (by omega)
      have n1 := rows_nx r1 i0 (by omega)
      have hin := rows_in r1 i0 (show i < M p 0 by omega)
      have hlt := r1.2.2.1 i i0 (by omega)
      have el := l1 i i0 (by omega)
      have nxt : ∀ v : Int, v = cq (fun a => hp T a = g) (nxF (M (p + 1)) (M p 0) i).toNat → Ru d kSpans_addressesWith 5 [xO 5 p, xI g, xL v, xU, xI (i + 1)] [] M Q := fun v hv => by
        subst hv
        refine ih (i + 1) (by omega) (by omega) _ (by omega) (fun z => (n1.2.1 ?_).2.symm) (fun z => ?_)
        · refine Classical.byContradiction fun z9 => ?_
          have := n1.2.2 (by omega)
          omega
        · refine Classical.byContradiction fun z9 => ?_
          have := n1.2.1 (by omega)
          omega
      rw [z32_id (x := i + 1) (by omega) (by omega), el]
      refine ⟨by omega, fun z => ?_, fun z => ⟨by omega, by omega, ?_⟩⟩
      · have e9 := cq_no (P := fun a => hp T a = g) (a := x) (b := nxF (M (p + 1)) (M p 0) i) (by omega) (by omega) (fun a a0 a1 z9 => z (by rw [← hh i i0 (by omega) a (by omega) a1]; exact z9))
        rw [Int.add_zero, z64_id (by omega) (by omega)]
        exact nxt _ e9.symm
      · have e9 := cq_all (P := fun a => hp T a = g) (a := x) (b := nxF (M (p + 1)) (M p 0) i) (by omega) (by omega) (fun a a0 a1 => by rw [hh i i0 (by omega) a (by omega) a1]; exact Classical.not_not.mp z)
        have cb2 := cq_b (fun a => hp T a = g) (nxF (M (p + 1)) (M p 0) i).toNat
        rw [z64_id (x := nxF (M (p + 1)) (M p 0) i - 1 - M (p + 1) i) (by omega) (by omega), z64_id (x := nxF (M (p + 1)) (M p 0) i - 1 - M (p + 1) i + 1) (by omega) (by omega), z64_id (by omega) (by omega)]
        exact nxt _ (by omega)
  have := main 0 (by omega) 0 (by decide) (fun _ => r1.2.1.symm) (fun z => by omega)
  exact this
theorem qMo_reachL {g e : Int} (hw : tWF T) (hR : RW M r 0 T) (hg : okH T g) (h : Q (xL (cq (fun a => hp T a = g) (4294967296 : Int).toNat)) M) : Ru (d + 1) kMo_reach 42 [xO 9 r, xI e, xI (hk T g), xL 0, xU, xI 0] [] M Q := by
  have b1 := hR.2.1
  have r1 := RW_0 hR
  have hm := r1.1
  have e6 : (fun i => M (r + 6) (124 * 0 + i)) = M (r + 6) := funext fun i => by rw [show (124 : Int) * 0 + i = i by omega]
  have main : ∀ i : Int, i ≤ M (r + 5) 0 → ∀ x : Int, 0 ≤ i → (i < M (r + 5) 0 → x = M (r + 6) i) → (i = M (r + 5) 0 → x = 4294967296) → Ru (d + 1) kMo_reach 42 [xO 9 r, xI e, xI (hk T g), xL (cq (fun a => hp T a = g) x.toNat), xU, xI i] [] M Q := by
    refine loop_up (M (r + 5) 0) (fun i hi ih x i0 x0 x1 => ?_)
    have cb := cq_b (fun a => hp T a = g) x.toNat
    refine vMo_reach_42 ⟨by decide, fun y => ?_, fun y => ?_⟩
    · rw [x1 (by omega)]; exact h
    · have ex := x0 (by omega)
      have n1 := rows_nx r1 i0 (by omega)
      have hin := rows_in r1 i0 (show i < M (r + 5) 0 by omega)
      have hlt := r1.2.2.1 i i0 (by omega)
      have nxt : ∀ v : Int, v = cq (fun a => hp T a = g) (nxF (M (r + 6)) (M (r + 5) 0) i).toNat → Ru (d + 1) kMo_reach 42 [xO 9 r, xI e, xI (hk T g), xL v, xU, xI (i + 1)] [] M Q := fun v hv => by
        subst hv
        refine ih (i + 1) (by omega) (by omega) _ (by omega) (fun z => (n1.2.1 ?_).2.symm) (fun z => ?_)
        · refine Classical.byContradiction fun z9 => ?_
          have := n1.2.2 (by omega)
          omega
        · refine Classical.byContradiction fun z9 => ?_
          have := n1.2.1 (by omega)
          omega
      have hcod : ∀ a : Int, x ≤ a → a < nxF (M (r + 6)) (M (r + 5) 0) i → (hp T a = g ↔ M (r + 7) i = hk T g) := fun a a0 a1 => by
        rw [← hk_iff hw hg, r1.2.2.2.1 i i0 (by omega) a (by omega) a1]
      rw [z32_id (x := i + 1) (by omega) (by omega)]
      refine ⟨by omega, fun z => ?_, fun z => ?_⟩
      · have e9 := cq_no (P := fun a => hp T a = g) (a := x) (b := nxF (M (r + 6)) (M (r + 5) 0) i) (by omega) (by omega) (fun a a0 a1 z9 => z ((hcod a a0 a1).mp z9))
        rw [Int.add_zero, z64_id (by omega) (by omega)]
        exact nxt _ e9.symm
      · have e9 := cq_all (P := fun a => hp T a = g) (a := x) (b := nxF (M (r + 6)) (M (r + 5) 0) i) (by omega) (by omega) (fun a a0 a1 => (hcod a a0 a1).mpr (Classical.not_not.mp z))
        have cb2 := cq_b (fun a => hp T a = g) (nxF (M (r + 6)) (M (r + 5) 0) i).toNat
        refine qMo_behindRow hR (Or.inl rfl) i0 (by omega) (vMo_reach_72 ⟨by omega, ?_⟩)
        rw [e6, z64_id (x := nxF (M (r + 6)) (M (r + 5) 0) i - M (r + 6) i) (by omega) (by omega), z64_id (by omega) (by omega), z32_id (x := i + 1) (by omega) (by omega)]
        exact nxt _ (by omega)
  have := main 0 (by omega) 0 (by decide) (fun _ => r1.2.1.symm) (fun z => by omega)
  exact this
end Dif

/-! WHAT AN EDIT TOUCHES: the class. -/
noncomputable def pb (P : Prop) : Bool := @decide P (Classical.propDecidable _)
theorem pb_t {P : Prop} (h : P) : pb P = true := @decide_eq_true _ (Classical.propDecidable _) h
theorem pb_f {P : Prop} (h : ¬ P) : pb P = false := @decide_eq_false _ (Classical.propDecidable _) h
/-- how many below n -/
noncomputable def cq (P : Int → Prop) : Nat → Int
  | 0 => 0
  | n + 1 => cq P n + if pb (P n) = true then 1 else 0
theorem cq_y {P : Int → Prop} {n : Int} (n0 : 0 ≤ n) (h : P n) : cq P (n + 1).toNat = cq P n.toNat + 1 := by
  rw [show (n + 1).toNat = n.toNat + 1 by omega]
  show cq P n.toNat + (if pb (P (n.toNat : Int)) = true then 1 else 0) = _
  rw [show (n.toNat : Int) = n by omega, pb_t h, if_pos rfl]
theorem cq_n {P : Int → Prop} {n : Int} (n0 : 0 ≤ n) (h : ¬ P n) : cq P (n + 1).toNat = cq P n.toNat := by
  rw [show (n + 1).toNat = n.toNat + 1 by omega]
  show cq P n.toNat + (if pb (P (n.toNat : Int)) = true then 1 else 0) = _
  rw [show (n.toNat : Int) = n by omega, pb_f h, if_neg (by decide), Int.add_zero]
theorem cq_b (P : Int → Prop) : ∀ n : Nat, 0 ≤ cq P n ∧ cq P n ≤ n
  | 0 => ⟨Int.le_refl _, Int.le_refl _⟩
  | n + 1 => by
    have := cq_b P n
    unfold cq
    split <;> omega
theorem cq_cg {P P2 : Int → Prop} : ∀ n : Nat, (∀ k : Int, 0 ≤ k → k < n → (P k ↔ P2 k)) → cq P n = cq P2 n
  | 0, _ => rfl
  | n + 1, h => by
    have ih := cq_cg (P := P) (P2 := P2) n (fun k k0 k1 => h k k0 (by omega))
    have h1 := h n (by omega) (by omega)
    show cq P n + (if pb (P n) = true then 1 else 0) = cq P2 n + if pb (P2 n) = true then 1 else 0
    rw [ih]
    by_cases e : P n
    · rw [pb_t e, pb_t (h1.mp e)]
    · rw [pb_f e, pb_f (fun z => e (h1.mpr z))]
/-- all from a on -/
theorem cq_run {P : Int → Prop} {a : Int} (a0 : 0 ≤ a) : ∀ k : Nat, (∀ j : Int, a ≤ j → j < a + k → P j) → cq P (a + k).toNat = cq P a.toNat + k
  | 0, _ => by rw [show a + ((0 : Nat) : Int) = a by omega]; omega
  | k + 1, h => by
    have ih := cq_run (P := P) a0 k (fun j j0 j1 => h j j0 (by omega))
    rw [show a + ((k + 1 : Nat) : Int) = a + k + 1 by omega, cq_y (by omega) (h _ (by omega) (by omega)), ih]
    omega
/-- nodes of the same bits and ways -/
def sameV (T1 : TB) (v1 z1 : Int) (P1 : Nat) (T2 : TB) (v2 z2 : Int) (P2 : Nat) : Prop := nC T1 v1 z1 P1 = nC T2 v2 z2 P2 ∧ nR T1 v1 z1 P1 = nR T2 v2 z2 P2 ∧ nN T1 v1 z1 P1 = nN T2 v2 z2 P2 ∧ ∀ j k : Nat, j < P1 → k < P2 → nS T1 v1 z1 j = true → nS T2 v2 z2 k = true → nN T1 v1 z1 j = nN T2 v2 z2 k → cod T1 (v1 + j * z1) = cod T2 (v2 + k * z2)
def sameN (T1 T2 : TB) (l v1 v2 : Int) : Prop := sameV T1 v1 (wd (tB (tS T1) (l + 1).toNat)) (2 ^ (tS T1 l).toNat) T2 v2 (wd (tB (tS T2) (l + 1).toNat)) (2 ^ (tS T2 l).toNat)
section Others
variable {d : Nat} {M : xM} {Q : xQ} {T1 T2 : TB} {p q : Int}
theorem nS_u {T : TB} {v z : Int} {j k : Nat} (hj : nS T v z j = true) (hk : nS T v z k = true) (e : nN T v z j = nN T v z k) : j = k := by
  rcases (show j = k ∨ j < k ∨ k < j by omega) with h | h | h
  · exact h
  · have h1 := nN_mono (T := T) (v := v) (z := z) (show j + 1 ≤ k by omega)
    rw [nN_y hj] at h1
    omega
  · have h1 := nN_mono (T := T) (v := v) (z := z) (show k + 1 ≤ j by omega)
    rw [nN_y hk] at h1
    omega
theorem qNodes_isSame {m n l : Int} (hN : NT M p T1) (hN2 : NT M q T2) (ha : NA M p T1 m l) (hb : NA M q T2 n l) (h1 : sameN T1 T2 l (M (p + 1) m) (M (q + 1) n) → Q (xI 1) M) (h0 : ¬ sameN T1 T2 l (M (p + 1) m) (M (q + 1) n) → Q (xI 0) M) : Ru (d + 1) kNodes_isSame 0 [xO 3 p, xI m, xO 3 q, xI n, xU, xU, xU, xU] [] M Q := by
  have b1 := NA_b hN ha
  have b2 := NA_b hN2 hb
  obtain ⟨⟨f3, f4, f6, f8, f8', f9, f1⟩, g1, g2, g3, g4⟩ := ha.2.2.2.2.2
  obtain ⟨⟨k3, k4, k6, k8, k8', k9, k1⟩, i1, i2, i3, i4⟩ := hb.2.2.2.2.2
  have nb := nN_b T1 (M (p + 1) m) (wd (tB (tS T1) (l + 1).toNat)) (2 ^ (tS T1 l).toNat)
  have nb2 := nN_b T2 (M (q + 1) n) (wd (tB (tS T2) (l + 1).toNat)) (2 ^ (tS T2 l).toNat)
  have c16 := hN.2.1.2.2.2.2
  have c16' := hN2.2.1.2.2.2.2
  unfold sameN sameV at h1 h0
  refine vNodes_isSame_0 (qNodes_has hN.2.1.2.2.2.1 (fun _ _ => vNodes_isSame_5 ⟨fun z => absurd z (by decide), fun _ => ?_⟩) (fun z => absurd ⟨b1.1, b1.2.1⟩ z))
  refine qNodes_has hN2.2.1.2.2.2.1 (fun _ _ => vNodes_isSame_13 ⟨fun z => absurd z (by decide), fun _ => ⟨by omega, by omega, ?_⟩⟩) (fun z => absurd ⟨b2.1, b2.2.1⟩ z)
  rw [f3, k3, f4, k4, z32_id (x := m + 1) (by omega) (by omega), z32_id (x := n + 1) (by omega) (by omega), f8', k8', z32_id (by omega) (by omega), z32_id (by omega) (by omega), show M (p + 8) m + nN T1 (M (p + 1) m) (wd (tB (tS T1) (l + 1).toNat)) (2 ^ (tS T1 l).toNat) - M (p + 8) m = nN T1 (M (p + 1) m) (wd (tB (tS T1) (l + 1).toNat)) (2 ^ (tS T1 l).toNat) by omega, show M (q + 8) n + nN T2 (M (q + 1) n) (wd (tB (tS T2) (l + 1).toNat)) (2 ^ (tS T2 l).toNat) - M (q + 8) n = nN T2 (M (q + 1) n) (wd (tB (tS T2) (l + 1).toNat)) (2 ^ (tS T2 l).toNat) by omega]
  refine ⟨fun y1 => h0 (fun y => y1 y.1), fun y1 => ⟨by omega, by omega, fun y2 => ⟨by omega, by omega, by omega, by omega, fun y3 => ?_, fun y3 => h0 (fun y => y3 y.2.2.1)⟩, fun y2 => h0 (fun y => y2 y.2.1)⟩⟩
  have y1 := Classical.not_not.mp y1
  rw [f8'] at g4
  rw [k8'] at i4
  generalize hv1 : M (p + 1) m = v1 at *
  generalize hv2 : M (q + 1) n = v2 at *
  generalize hz1 : wd (tB (tS T1) (l + 1).toNat) = z1 at *
  generalize hz2 : wd (tB (tS T2) (l + 1).toNat) = z2 at *
  generalize hP1 : 2 ^ (tS T1 l).toNat = P1 at *
  generalize hP2 : 2 ^ (tS T2 l).toNat = P2 at *
  refine loop_up (nN T1 v1 z1 P1) (P := fun i => ∀ w6 w7 : xV, 0 ≤ i → (∀ j k : Nat, j < P1 → k < P2 → nS T1 v1 z1 j = true → nS T2 v2 z2 k = true → nN T1 v1 z1 j = nN T2 v2 z2 k → nN T1 v1 z1 j < i → cod T1 (v1 + j * z1) = cod T2 (v2 + k * z2)) → Ru (d + 1) kNodes_isSame 92 [xO 3 p, xI m, xO 3 q, xI n, xI (nN T1 v1 z1 P1), xI i, w6, w7] [] M Q) (fun i hi ih w6 w7 i0 hok => ?_) 0 nb.1 _ _ (by decide) (fun j k _ _ _ _ _ h9 => by have := (nN_b T1 v1 z1 j).1; omega)
  refine vNodes_isSame_92 ⟨fun y => h1 ⟨y1, y2, y3, fun j k hj hk sj sk e => hok j k hj hk sj sk e ?_⟩, fun y => ⟨by omega, by omega, ?_⟩⟩
  · have h9 := nN_mono (T := T1) (v := v1) (z := z1) (show j + 1 ≤ P1 by omega)
    rw [nN_y sj] at h9
    omega
  · rw [z32_id (x := M (p + 8) m + i) (by omega) (by omega), z32_id (x := M (q + 8) n + i) (by omega) (by omega), z32_id (x := i + 1) (by omega) (by omega)]
    obtain ⟨j, j0, j1, j2⟩ := nN_surj (T := T1) (v := v1) (z := z1) P1 i i0 (by omega)
    obtain ⟨k, k0, k1', k2⟩ := nN_surj (T := T2) (v := v2) (z := z2) P2 i i0 (by omega)
    have ej := (f9 j j0 j1).2
    have ek := (k9 k k0 k1').2
    rw [j2] at ej
    rw [k2] at ek
    rw [ej, ek]
    refine ⟨fun y5 => by omega, fun _ => ⟨fun y5 => by omega, fun _ => ⟨by omega, by omega, fun y5 => ih (i + 1) (by omega) (by omega) _ _ (by omega) (fun a b ha' hb' sa sb e he => ?_), fun y5 => h0 (fun y6 => y5 (y6.2.2.2 j k j0 k0 j1 k1' (by omega)))⟩⟩⟩
    by_cases ei : nN T1 v1 z1 a = i
    · have ea := nS_u (T := T1) sa j1 (by omega)
      have eb := nS_u (T := T2) sb k1' (by omega)
      rw [ea, eb]; exact y5
    · exact hok a b ha' hb' sa sb e (by omega)
/-- a table has a node of a level and value -/
def inN (T : TB) (l v : Int) : Prop := l = 0 ∨ (1 ≤ l ∧ l < tZ T ∧ NDT T (tB (tS T) l.toNat) v)
def badN (T1 T2 : TB) (vl lv : Int → Int) (n : Int) : Prop := ¬ (inN T2 (lv n) (vl n) ∧ sameN T1 T2 (lv n) (vl n) (vl n))
def goneN (T1 : TB) (vl lv : Int → Int) (n : Int) : Prop := ¬ inN T1 (lv n) (vl n)
def isTd (T1 T2 : TB) (x : Int) : Prop := ∃ (sA sB : Int) (lfA vlA lvA lfB vlB lvB : Int → Int), isNum T1 sA lfA vlA lvA ∧ isNum T2 sB lfB vlB lvB ∧ x = cq (badN T1 T2 vlA lvA) sA.toNat + cq (goneN T1 vlB lvB) sB.toNat
theorem num_0 {T : TB} {s : Int} {lf vl lv : Int → Int} (hw : tWF T) (h : isNum T s lf vl lv) : 1 ≤ s := by
  have hz := hw.2.2.2.2.2.1
  have := num_mono h (i := 1) (j := tZ T) (by decide) (by omega) (Int.le_refl _)
  rw [h.1.2.1, h.1.2.2] at this
  exact this
theorem isTd_u {T1 T2 : TB} {x y : Int} (hw1 : tWF T1) (hw2 : tWF T2) (h : isTd T1 T2 x) (g : isTd T1 T2 y) : x = y := by
  obtain ⟨sA, sB, lfA, vlA, lvA, lfB, vlB, lvB, n1, n2, e⟩ := h
  obtain ⟨sA', sB', lfA', vlA', lvA', lfB', vlB', lvB', n1', n2', e'⟩ := g
  obtain ⟨u1, u2, u3⟩ := num_u hw1 n1 n1'
  obtain ⟨w1, w2, w3⟩ := num_u hw2 n2 n2'
  have h1 := num_0 hw1 n1
  have h2 := num_0 hw2 n2
  rw [e, e', ← u1, ← w1, cq_cg (P := badN T1 T2 vlA lvA) (P2 := badN T1 T2 vlA' lvA') sA.toNat (fun k k0 k1 => by unfold badN; rw [(u3 k k0 (by omega)).1, (u3 k k0 (by omega)).2]), cq_cg (P := goneN T1 vlB lvB) (P2 := goneN T1 vlB' lvB') sB.toNat (fun k k0 k1 => by unfold goneN; rw [(w3 k k0 (by omega)).1, (w3 k k0 (by omega)).2])]
/-- nodes stand in their order -/
theorem num_lt {T : TB} {s : Int} {lf vl lv : Int → Int} (hw : tWF T) (h : isNum T s lf vl lv) {i j : Int} (i0 : 0 ≤ i) (ij : i < j) (j1 : j < s) : lv i < lv j ∨ (lv i = lv j ∧ vl i < vl j) := by
  obtain ⟨l, hl⟩ := num_at hw h i0 (by omega)
  obtain ⟨k, hk⟩ := num_at hw h (by omega) j1
  rw [hl.2.2.1, hk.2.2.1]
  rcases (show l < k ∨ l = k ∨ k < l by omega) with e | e | e
  · exact Or.inl e
  · right
    subst e
    refine ⟨rfl, ?_⟩
    by_cases el : l = 0
    · subst el
      have e0 := h.1.1
      have e1 : lf (0 + 1) = 1 := h.1.2.1
      have := hl.2.1
      have := hk.2.1
      omega
    · exact (h.2.2 l (by have := hl.1; omega) hl.1.2).1.2.1 i j hl.2.1.1 ij hk.2.1.2
  · have := num_mono h (i := k + 1) (j := l) (by have := hk.1; omega) (by omega) (by have := hl.1; omega)
    have := hl.2.1
    have := hk.2.1
    omega
/-- a node that a table has is one by number -/
theorem in_num {T : TB} {s : Int} {lf vl lv : Int → Int} (hw : tWF T) (h : isNum T s lf vl lv) {l v : Int} (hi : inN T l v) (h0 : l = 0 → v = 0) : ∃ n : Int, 0 ≤ n ∧ n < s ∧ lv n = l ∧ vl n = v := by
  have h1 := num_0 hw h
  rcases hi with e | ⟨l0, l1, hx⟩
  · exact ⟨0, by decide, by omega, by rw [h.2.1.2, e], by rw [h.2.1.1, h0 e]⟩
  · obtain ⟨n, n0, n1, n2⟩ := num_ex h l0 l1 hx
    have ha := num_nd hw h (by omega) l1 n0 n1
    have hb := num_bd h ha
    exact ⟨n, hb.1, hb.2, ha.2.2.1, n2⟩
theorem num_in {T : TB} {s : Int} {lf vl lv : Int → Int} (hw : tWF T) (h : isNum T s lf vl lv) {n : Int} (n0 : 0 ≤ n) (n1 : n < s) : inN T (lv n) (vl n) ∧ (lv n = 0 → vl n = 0) := by
  obtain ⟨l, hl⟩ := num_at hw h n0 n1
  rw [hl.2.2.1]
  by_cases e : l = 0
  · refine ⟨Or.inl e, fun _ => ?_⟩
    subst e
    have e0 := h.1.1
    have e1 : lf (0 + 1) = 1 := h.1.2.1
    have := hl.2.1
    rw [show n = 0 by omega]
    exact h.2.1.1
  · exact ⟨Or.inr ⟨by have := hl.1; omega, hl.1.2, hl.2.2.2.2.2 (by have := hl.1; omega)⟩, fun z => absurd z e⟩
theorem qNodes_othersThan (hw1 : tWF T1) (hw2 : tWF T2) (hN : NT M p T1) (hN2 : NT M q T2) (h : ∀ x : Int, isTd T1 T2 x → Q (xI x) M) : Ru (d + 2) kNodes_othersThan 0 [xO 3 p, xO 3 q, xU, xU, xU, xU, xU, xU] [] M Q := by
  have n1 := NT_num hN
  have n2 := NT_num hN2
  have s1 := num_0 hw1 n1
  have s2 := num_0 hw2 n2
  have c1 := hN.2.1.2.2.2.1
  have c2 := hN2.2.1.2.2.2.1
  have z1 := hw1.2.2.2.2.2.1
  have z2 := hw2.2.2.2.2.2.1
  -- keys: A's node i is less than B's node j
  refine vNodes_othersThan_0 (loop_up (M p 0 + M q 0) (P := fun t => ∀ (m n u : Int) (w5 : xV), t = m + n → (0 ≤ u ∧ u ≤ m + n) → 0 ≤ m → m ≤ M p 0 → 0 ≤ n → n ≤ M q 0 → (∀ i j : Int, 0 ≤ i → i < m → n ≤ j → j < M q 0 → M (p + 2) i < M (q + 2) j ∨ (M (p + 2) i = M (q + 2) j ∧ M (p + 1) i < M (q + 1) j)) → (∀ i j : Int, m ≤ i → i < M p 0 → 0 ≤ j → j < n → M (q + 2) j < M (p + 2) i ∨ (M (p + 2) i = M (q + 2) j ∧ M (q + 1) j < M (p + 1) i)) → Ru (d + 2) kNodes_othersThan 10 [xO 3 p, xO 3 q, xI (cq (badN T1 T2 (M (p + 1)) (M (p + 2))) m.toNat + cq (goneN T1 (M (q + 1)) (M (q + 2))) n.toNat), xI m, xI n, xI u, w5, xU] [] M Q) (fun t ht ih m n u w5 et hu m0 m1 n0 n1' hA hB => ?_) 0 (by omega) 0 0 0 _ (by decide) (by decide) (by decide) (by omega) (by decide) (by omega) (fun i j i0 i1 => by omega) (fun i j _ _ j0 j1 => by omega))
  have bA := cq_b (badN T1 T2 (M (p + 1)) (M (p + 2))) m.toNat
  have bB := cq_b (goneN T1 (M (q + 1)) (M (q + 2))) n.toNat
  -- A's rest is only here
  have endA : n = M q 0 → Q (xI (z32 (z32 (cq (badN T1 T2 (M (p + 1)) (M (p + 2))) m.toNat + cq (goneN T1 (M (q + 1)) (M (q + 2))) n.toNat + z32 (M p 0 - m)) + z32 (M q 0 - n)))) M := fun en => by
    have hr := cq_run (P := badN T1 T2 (M (p + 1)) (M (p + 2))) m0 (M p 0 - m).toNat (fun j j0 j1 z => by
      have hin := num_in hw1 n1 (n := j) (by omega) (by omega)
      obtain ⟨k, k0, k1, k2, k3⟩ := in_num hw2 n2 z.1 hin.2
      have := hB j k j0 (by omega) k0 (by omega)
      omega)
    rw [show m + ((M p 0 - m).toNat : Int) = M p 0 by omega] at hr
    rw [z32_id (x := M p 0 - m) (by omega) (by omega), z32_id (x := M q 0 - n) (by omega) (by omega), z32_id (x := _ + (M p 0 - m)) (by omega) (by omega), z32_id (by omega) (by omega)]
    refine h _ ⟨M p 0, M q 0, _, _, _, _, _, _, n1, n2, ?_⟩
    rw [hr, ← en]
    omega
  have endB : m = M p 0 → Q (xI (z32 (z32 (cq (badN T1 T2 (M (p + 1)) (M (p + 2))) m.toNat + cq (goneN T1 (M (q + 1)) (M (q + 2))) n.toNat + z32 (M p 0 - m)) + z32 (M q 0 - n)))) M := fun em => by
    have hr := cq_run (P := goneN T1 (M (q + 1)) (M (q + 2))) n0 (M q 0 - n).toNat (fun j j0 j1 z => by
      have hin := num_in hw2 n2 (n := j) (by omega) (by omega)
      obtain ⟨k, k0, k1, k2, k3⟩ := in_num hw1 n1 z hin.2
      have := hA k j k0 (by omega) j0 (by omega)
      omega)
    rw [show n + ((M q 0 - n).toNat : Int) = M q 0 by omega] at hr
    rw [z32_id (x := M p 0 - m) (by omega) (by omega), z32_id (x := M q 0 - n) (by omega) (by omega), z32_id (x := _ + (M p 0 - m)) (by omega) (by omega), z32_id (by omega) (by omega)]
    refine h _ ⟨M p 0, M q 0, _, _, _, _, _, _, n1, n2, ?_⟩
    rw [hr, ← em]
    omega
  refine vNodes_othersThan_10 ⟨fun z => endB (by omega), fun z9 => qNodes_has c1 (fun _ hm => vNodes_othersThan_23 ⟨fun z => absurd z (by decide), fun _ => ?_⟩) (fun z => vNodes_othersThan_23 ⟨fun _ => endB (by omega), fun z2 => absurd rfl z2⟩)⟩
  refine qNodes_has c2 (fun _ hn => vNodes_othersThan_32 ⟨fun z => absurd z (by decide), fun _ => ?_⟩) (fun z => vNodes_othersThan_32 ⟨fun _ => endA (by omega), fun z2 => absurd rfl z2⟩)
  obtain ⟨l, hl⟩ := NT_at hw1 hN m0 hm
  obtain ⟨k, hk⟩ := NT_at hw2 hN2 n0 hn
  have el := hl.2.2.1
  have ek := hk.2.2.1
  have l0 := hl.1
  have k0 := hk.1
  have vl := hl.2.2.2.1.2
  have vk := hk.2.2.2.1.2
  have wp1 := wd_pos (tB (tS T1) l.toNat)
  have wp2 := wd_pos (tB (tS T2) k.toNat)
  -- the three steps
  have goA : M (p + 2) m < M (q + 2) n ∨ (M (p + 2) m = M (q + 2) n ∧ M (p + 1) m < M (q + 1) n) → ∀ w : xV, Ru (d + 2) kNodes_othersThan 10 [xO 3 p, xO 3 q, xI (cq (badN T1 T2 (M (p + 1)) (M (p + 2))) m.toNat + cq (goneN T1 (M (q + 1)) (M (q + 2))) n.toNat + 1), xI (m + 1), xI n, xI (u + 1), w, xU] [] M Q := fun hlt w => by
    have hbad : badN T1 T2 (M (p + 1)) (M (p + 2)) m := fun z => by
      have hin := num_in hw1 n1 m0 hm
      obtain ⟨j, j0, j1, j2, j3⟩ := in_num hw2 n2 z.1 hin.2
      by_cases ej : j < n
      · have := hB m j (Int.le_refl _) hm j0 ej
        omega
      · rcases (show j = n ∨ n < j by omega) with e | e
        · subst e; omega
        · have := num_lt hw2 n2 n0 e j1
          omega
    have := ih (m + 1 + n) (by omega) (by omega) (m + 1) n (u + 1) w rfl (by omega) (by omega) (by omega) n0 n1' (fun i j i0 i1 j0 j1 => ?_) (fun i j i0 i1 j0 j1 => hB i j (by omega) i1 j0 j1)
    · rw [cq_y m0 hbad, show cq (badN T1 T2 (M (p + 1)) (M (p + 2))) m.toNat + 1 + cq (goneN T1 (M (q + 1)) (M (q + 2))) n.toNat = cq (badN T1 T2 (M (p + 1)) (M (p + 2))) m.toNat + cq (goneN T1 (M (q + 1)) (M (q + 2))) n.toNat + 1 by omega] at this
      exact this
    · by_cases ei : i < m
      · exact hA i j i0 ei j0 j1
      · rw [show i = m by omega]
        rcases (show j = n ∨ n < j by omega) with e | e
        · rw [e]; exact hlt
        · have := num_lt hw2 n2 n0 e j1
          omega
  have goB : M (q + 2) n < M (p + 2) m ∨ (M (p + 2) m = M (q + 2) n ∧ M (q + 1) n < M (p + 1) m) → ∀ w : xV, Ru (d + 2) kNodes_othersThan 10 [xO 3 p, xO 3 q, xI (cq (badN T1 T2 (M (p + 1)) (M (p + 2))) m.toNat + cq (goneN T1 (M (q + 1)) (M (q + 2))) n.toNat + 1), xI m, xI (n + 1), xI (u + 1), w, xU] [] M Q := fun hlt w => by
    have hbad : goneN T1 (M (q + 1)) (M (q + 2)) n := fun z => by
      have hin := num_in hw2 n2 n0 hn
      obtain ⟨j, j0, j1, j2, j3⟩ := in_num hw1 n1 z hin.2
      by_cases ej : j < m
      · have := hA j n j0 ej (Int.le_refl _) hn
        omega
      · rcases (show j = m ∨ m < j by omega) with e | e
        · subst e; omega
        · have := num_lt hw1 n1 m0 e j1
          omega
    have := ih (m + (n + 1)) (by omega) (by omega) m (n + 1) (u + 1) w rfl (by omega) m0 m1 (by omega) (by omega) (fun i j i0 i1 j0 j1 => hA i j i0 i1 (by omega) j1) (fun i j i0 i1 j0 j1 => ?_)
    · rw [cq_y n0 hbad, ← Int.add_assoc] at this
      exact this
    · by_cases ej : j < n
      · exact hB i j i0 i1 j0 ej
      · rw [show j = n by omega]
        rcases (show i = m ∨ m < i by omega) with e | e
        · rw [e]; exact hlt
        · have := num_lt hw1 n1 m0 e i1
          omega
  have goE : M (p + 2) m = M (q + 2) n → M (p + 1) m = M (q + 1) n → ∀ (w : xV) (x : Int), cq (badN T1 T2 (M (p + 1)) (M (p + 2))) (m + 1).toNat = cq (badN T1 T2 (M (p + 1)) (M (p + 2))) m.toNat + x → Ru (d + 2) kNodes_othersThan 10 [xO 3 p, xO 3 q, xI (cq (badN T1 T2 (M (p + 1)) (M (p + 2))) m.toNat + cq (goneN T1 (M (q + 1)) (M (q + 2))) n.toNat + x), xI (m + 1), xI (n + 1), xI (u + 1), w, xU] [] M Q := fun e1 e2 w x hx => by
    have hgone : ¬ goneN T1 (M (q + 1)) (M (q + 2)) n := fun z => z (by
      rw [← e1, ← e2]
      exact (num_in hw1 n1 m0 hm).1)
    have := ih (m + 1 + (n + 1)) (by omega) (by omega) (m + 1) (n + 1) (u + 1) w rfl (by omega) (by omega) (by omega) (by omega) (by omega) (fun i j i0 i1 j0 j1 => ?_) (fun i j i0 i1 j0 j1 => ?_)
    · rw [hx, cq_n n0 hgone, show cq (badN T1 T2 (M (p + 1)) (M (p + 2))) m.toNat + x + cq (goneN T1 (M (q + 1)) (M (q + 2))) n.toNat = cq (badN T1 T2 (M (p + 1)) (M (p + 2))) m.toNat + cq (goneN T1 (M (q + 1)) (M (q + 2))) n.toNat + x by omega] at this
      exact this
    · by_cases ei : i < m
      · exact hA i j i0 ei (by omega) j1
      · rw [show i = m by omega]
        have := num_lt hw2 n2 n0 (show n < j by omega) j1
        omega
    · by_cases ej : j < n
      · exact hB i j (by omega) i1 j0 ej
      · rw [show j = n by omega]
        have := num_lt hw1 n1 m0 (show m < i by omega) i1
        omega
  have ord : ∀ x : Int, ((x < 0 ∧ (M (p + 2) m < M (q + 2) n ∨ (M (p + 2) m = M (q + 2) n ∧ M (p + 1) m < M (q + 1) n))) ∨ (0 < x ∧ (M (q + 2) n < M (p + 2) m ∨ (M (p + 2) m = M (q + 2) n ∧ M (q + 1) n < M (p + 1) m))) ∨ (x = 0 ∧ M (p + 2) m = M (q + 2) n ∧ M (p + 1) m = M (q + 1) n)) → Ru (d + 2) kNodes_othersThan 43 [xO 3 p, xO 3 q, xI (cq (badN T1 T2 (M (p + 1)) (M (p + 2))) m.toNat + cq (goneN T1 (M (q + 1)) (M (q + 2))) n.toNat), xI m, xI n, xI u, w5, xU] [xL x] M Q := fun x hx => by
    refine vNodes_othersThan_43 ⟨fun y => vNodes_othersThan_63 (vNodes_othersThan_66 ?_), fun y => ?_⟩
    · rw [z32_id (x := _ + 1) (by omega) (by omega), z32_id (x := m + 0) (by omega) (by omega), z32_id (x := m + 1) (by omega) (by omega), z32_id (x := n + 0) (by omega) (by omega), z32_id (x := n + 1) (by omega) (by omega), z32_id (x := u + 1) (by omega) (by omega), Int.add_zero, Int.add_zero]
      exact ⟨fun y2 => ⟨fun y3 => by omega, fun _ => goB (by omega) _⟩, fun y2 => ⟨fun _ => goA (by omega) _, fun y3 => by omega⟩⟩
    · have y := Classical.not_not.mp y
      have e1 : M (p + 2) m = M (q + 2) n := by omega
      have e2 : M (p + 1) m = M (q + 1) n := by omega
      have elk : k = l := by omega
      subst elk
      refine qNodes_isSame hN hN2 hl hk (fun hs => vNodes_othersThan_60 ⟨fun _ => vNodes_othersThan_66 ?_, fun z => absurd (by decide) z⟩) (fun hs => vNodes_othersThan_60 ⟨fun z => absurd rfl z, fun _ => vNodes_othersThan_63 (vNodes_othersThan_66 ?_)⟩)
      · rw [z32_id (x := m + 0) (by omega) (by omega), z32_id (x := m + 1) (by omega) (by omega), z32_id (x := n + 0) (by omega) (by omega), z32_id (x := n + 1) (by omega) (by omega), z32_id (x := u + 1) (by omega) (by omega)]
        have hnb : ¬ badN T1 T2 (M (p + 1)) (M (p + 2)) m := fun z => z (by
          refine ⟨?_, ?_⟩
          · rw [e1, e2]; exact (num_in hw2 n2 n0 hn).1
          · rw [el]
            rw [← e2] at hs
            exact hs)
        have hg := goE e1 e2 (xL x) 0 (by rw [cq_n m0 hnb]; omega)
        rw [Int.add_zero] at hg
        exact ⟨fun y2 => by omega, fun _ => ⟨fun y2 => by omega, fun _ => hg⟩⟩
      · rw [z32_id (x := _ + 1) (by omega) (by omega), z32_id (x := m + 0) (by omega) (by omega), z32_id (x := m + 1) (by omega) (by omega), z32_id (x := n + 0) (by omega) (by omega), z32_id (x := n + 1) (by omega) (by omega), z32_id (x := u + 1) (by omega) (by omega)]
        have hb : badN T1 T2 (M (p + 1)) (M (p + 2)) m := fun z => hs (by
          have h9 := z.2
          rw [el] at h9
          rw [← e2]
          exact h9)
        have hg := goE e1 e2 (xL x) 1 (cq_y m0 hb)
        exact ⟨fun y2 => by omega, fun _ => ⟨fun y2 => by omega, fun _ => hg⟩⟩
  refine vNodes_orderOf_0 ⟨by omega, by omega, ?_⟩
  rw [z32_id (x := M (p + 2) m - M (q + 2) n) (by omega) (by omega), z64_id (x := M (p + 1) m - M (q + 1) n) (by omega) (by omega)]
  refine ⟨fun y => ⟨by omega, by omega, ord _ (by omega)⟩, fun y => ord _ (by omega)⟩
end Others

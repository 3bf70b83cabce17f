/-! TABLES: rules in their order, hops, strides; in the class's cells, in the reference's rows. -/
theorem loop_up {P : Int → Prop} (n : Int) (h : ∀ i : Int, i ≤ n → (∀ j : Int, i < j → j ≤ n → P j) → P i) : ∀ i : Int, i ≤ n → P i := by
  have key : ∀ (m : Nat) (i : Int), (n - i).toNat ≤ m → i ≤ n → P i := by
    intro m
    induction m with
    | zero => exact fun i hi h1 => h i h1 (fun j hj hj2 => by omega)
    | succ m ih => exact fun i hi h1 => h i h1 (fun j hj hj2 => ih j (by omega) hj2)
  exact fun i hi => key (n - i).toNat i (Nat.le_refl _) hi
theorem loop_dn {P : Int → Prop} (n : Int) (h : ∀ i : Int, n ≤ i → (∀ j : Int, n ≤ j → j < i → P j) → P i) : ∀ i : Int, n ≤ i → P i := by
  have key : ∀ (m : Nat) (i : Int), (i - n).toNat ≤ m → n ≤ i → P i := by
    intro m
    induction m with
    | zero => exact fun i hi h1 => h i h1 (fun j hj hj2 => by omega)
    | succ m ih => exact fun i hi h1 => h i h1 (fun j hj hj2 => ih j (by omega) hj)
  exact fun i hi => key (i - n).toNat i (Nat.le_refl _) hi
abbrev TB : Type := Int × (Int → Int) × (Int → Int) × (Int → Int) × (Int → Int) × Int × (Int → Int)
abbrev tN (T : TB) : Int := T.1
abbrev tV (T : TB) : Int → Int := T.2.1
abbrev tL (T : TB) : Int → Int := T.2.2.1
abbrev tH (T : TB) : Int → Int := T.2.2.2.1
abbrev tY (T : TB) : Int → Int := T.2.2.2.2.1
abbrev tZ (T : TB) : Int := T.2.2.2.2.2.1
abbrev tS (T : TB) : Int → Int := T.2.2.2.2.2.2
/-- how many k below n have a number -/
def cnt (H : Int → Int) (h : Int) : Nat → Int
  | 0 => 0
  | k + 1 => cnt H h k + if H k = h then 1 else 0
theorem cnt_nn (H : Int → Int) (h : Int) : ∀ k : Nat, 0 ≤ cnt H h k
  | 0 => Int.le_refl _
  | k + 1 => by
    have := cnt_nn H h k
    unfold cnt
    split <;> omega
theorem cnt_le (H : Int → Int) (h : Int) : ∀ k : Nat, cnt H h k ≤ k
  | 0 => Int.le_refl _
  | k + 1 => by
    have := cnt_le H h k
    unfold cnt
    split <;> omega
theorem cnt_pos {H : Int → Int} {h : Int} : ∀ {n : Nat} {k : Int}, 0 ≤ k → k < n → H k = h → 0 < cnt H h n
  | 0, k, h0, h1, _ => by omega
  | n + 1, k, h0, h1, he => by
    have h2 := cnt_nn H h n
    unfold cnt
    by_cases e : k = n
    · subst e
      rw [if_pos he]
      omega
    · have := cnt_pos (n := n) h0 (by omega) he
      split <;> omega
theorem cnt_ex {H : Int → Int} {h : Int} : ∀ {n : Nat}, 0 < cnt H h n → ∃ k : Int, 0 ≤ k ∧ k < n ∧ H k = h
  | 0, hp => absurd hp (by unfold cnt; omega)
  | n + 1, hp => by
    unfold cnt at hp
    by_cases e : H n = h
    · exact ⟨n, by omega, by omega, e⟩
    · rw [if_neg e] at hp
      obtain ⟨k, h1, h2, h3⟩ := cnt_ex (H := H) (h := h) (n := n) (by omega)
      exact ⟨k, h1, by omega, h3⟩
theorem cnt_cg {H H2 : Int → Int} {h : Int} : ∀ {n : Nat}, (∀ k : Int, 0 ≤ k → k < n → (H k = h ↔ H2 k = h)) → cnt H h n = cnt H2 h n
  | 0, _ => rfl
  | n + 1, hc => by
    have h1 := cnt_cg (H := H) (H2 := H2) (h := h) (n := n) (fun k h0 h1 => hc k h0 (by omega))
    have h2 := hc n (by omega) (by omega)
    unfold cnt
    rw [h1]
    by_cases e : H n = h
    · rw [if_pos e, if_pos (h2.mp e)]
    · rw [if_neg e, if_neg (fun q => e (h2.mpr q))]
/-- rules that have a hop -/
def tU (T : TB) (h : Int) : Int := cnt (tH T) h (tN T).toNat
/-- a hop's code: -1 of none -/
def tK (T : TB) (h : Int) : Int := if 0 ≤ h ∧ h < 60 ∧ 0 < tU T h then tY T h else -1
/-- sum of the strides ahead of a level -/
def tB (S : Int → Int) : Nat → Int
  | 0 => 0
  | k + 1 => tB S k + S k
def tWF (T : TB) : Prop := (0 ≤ tN T ∧ tN T ≤ 60) ∧ (∀ k : Int, 0 ≤ k → k < tN T → (0 ≤ tV T k ∧ tV T k < 4294967296) ∧ (0 ≤ tL T k ∧ tL T k ≤ 32) ∧ tV T k % wd (tL T k) = 0 ∧ 0 ≤ tH T k ∧ tH T k < 60) ∧ (∀ i j : Int, 0 ≤ i → i < j → j < tN T → tV T i < tV T j ∨ (tV T i = tV T j ∧ tL T i < tL T j)) ∧ (∀ h : Int, 0 ≤ h → h < 60 → 0 < tU T h → 0 ≤ tY T h ∧ tY T h ≤ 999) ∧ (∀ h g : Int, 0 ≤ h → h < 60 → 0 ≤ g → g < 60 → 0 < tU T h → 0 < tU T g → tY T h = tY T g → h = g) ∧ (1 ≤ tZ T ∧ tZ T ≤ 16) ∧ (∀ l : Int, 0 ≤ l → l < tZ T → 2 ≤ tS T l ∧ tS T l ≤ 6) ∧ tB (tS T) (tZ T).toNat = 32
/-- the class's table at t -/
def CT (M : xM) (t : Int) (T : TB) : Prop := M t 0 = tN T ∧ (∀ k : Int, 0 ≤ k → k < tN T → M (t + 1) k = tV T k ∧ M (t + 2) k = tL T k ∧ (0 ≤ tH T k → M (t + 3) k = tH T k)) ∧ (∀ h : Int, 0 ≤ h → h < 60 → M (t + 5) h = tU T h ∧ (0 < tU T h → M (t + 4) h = tY T h)) ∧ M t 6 = tZ T ∧ ∀ l : Int, 0 ≤ l → l < tZ T → M (t + 6) l = tS T l
/-- the reference's table in cell c from o on -/
def RT (M : xM) (c o : Int) (T : TB) : Prop := M c o = tN T ∧ M c (o + 1) = tZ T ∧ (∀ k : Int, 0 ≤ k → k < tN T → M c (o + 2 + k) = z32 (tV T k) ∧ M c (o + 62 + k) = tL T k ∧ M c (o + 122 + k) = tH T k) ∧ (∀ h : Int, 0 ≤ h → h ≤ 60 → M c (o + 182 + h) = tK T h) ∧ ∀ l : Int, 0 ≤ l → l < tZ T → M c (o + 243 + l) = tS T l
/-- a rule stands ahead of a beginning -/
def tA (T : TB) (k v l : Int) : Prop := tV T k < v ∨ (tV T k = v ∧ tL T k < l)
/-- a place of a beginning among the rules -/
def isPl (T : TB) (v l p : Int) : Prop := 0 ≤ p ∧ p ≤ tN T ∧ (∀ k : Int, 0 ≤ k → k < p → tA T k v l) ∧ (p < tN T → ¬ tA T p v l)
/-- a rule is one of a beginning -/
def isAt (T : TB) (v l p : Int) : Prop := 0 ≤ p ∧ p < tN T ∧ tV T p = v ∧ tL T p = l
theorem isPl_u {T : TB} {v l p q : Int} (h : isPl T v l p) (g : isPl T v l q) : p = q := by
  rcases (show p = q ∨ p < q ∨ q < p by omega) with e | e | e
  · exact e
  · exact absurd (g.2.2.1 p h.1 e) (h.2.2.2 (by have := g.2.1; omega))
  · exact absurd (h.2.2.1 q g.1 e) (g.2.2.2 (by have := h.2.1; omega))
theorem isAt_pl {T : TB} (hw : tWF T) {v l p : Int} (h : isAt T v l p) : isPl T v l p := by
  obtain ⟨h0, h1, h2, h3⟩ := h
  refine ⟨h0, by omega, fun k k0 k1 => ?_, fun _ q => ?_⟩
  · have := hw.2.2.1 k p k0 k1 h1
    unfold tA
    rw [h2, h3] at this
    exact this
  · unfold tA at q
    rw [h2, h3] at q
    omega
theorem isPl_no {T : TB} (hw : tWF T) {v l p : Int} (h : isPl T v l p) (hn : ¬ (p < tN T ∧ tV T p = v ∧ tL T p = l)) : ∀ k : Int, ¬ isAt T v l k := by
  intro k hk
  have e := isPl_u h (isAt_pl hw hk)
  subst e
  exact hn hk.2
theorem qTable_placeFor {d : Nat} {M : xM} {Q : xQ} {T : TB} {t v l : Int} (hc : CT M t T) (hw : tWF T) (h : ∀ p : Int, isPl T v l p → Q (xI p) M) : Ru d kTable_placeFor 0 [xO 6 t, xL v, xU, xI l, xU] [] M Q := by
  have hn := hw.1
  refine vTable_placeFor_0 (loop_up (tN T) (P := fun i => 0 ≤ i → (∀ k : Int, 0 ≤ k → k < i → tA T k v l) → Ru d kTable_placeFor 3 [xO 6 t, xL v, xU, xI l, xI i] [] M Q) (fun i hi ih h0 ha => ?_) 0 hn.1 (Int.le_refl _) (fun k h1 h2 => by omega))
  refine vTable_placeFor_3 ?_
  rw [hc.1]
  refine ⟨fun q => h i ⟨h0, hi, ha, fun z => by omega⟩, fun q => ⟨fun q2 => by omega, fun q2 => ⟨by omega, ?_⟩⟩⟩
  obtain ⟨e1, e2, -⟩ := hc.2.1 i h0 (by omega)
  rw [e1, e2, z32_id (by omega) (by omega)]
  have next : tA T i v l → Ru d kTable_placeFor 3 [xO 6 t, xL v, xU, xI l, xI (i + 1)] [] M Q := fun hi2 => ih (i + 1) (by omega) (by omega) (by omega) (fun k k0 k1 => by
    rcases (show k < i ∨ k = i by omega) with e | e
    · exact ha k k0 e
    · rw [e]; exact hi2)
  refine ⟨fun q3 => next (Or.inl q3), fun q3 => ⟨by omega, fun q4 => h i ⟨h0, hi, ha, fun _ z => ?_⟩, fun q4 => ⟨by omega, fun q5 => h i ⟨h0, hi, ha, fun _ z => ?_⟩, fun q5 => next (Or.inr ⟨Classical.not_not.mp q4, by omega⟩)⟩⟩⟩
  · unfold tA at z
    omega
  · unfold tA at z
    omega
theorem qTable_find {d : Nat} {M : xM} {Q : xQ} {T : TB} {t v l : Int} (hc : CT M t T) (hw : tWF T) (h : ∀ p : Int, isAt T v l p → Q (xI p) M) (h0 : (∀ p : Int, ¬ isAt T v l p) → Q (xI (-1)) M) : Ru (d + 1) kTable_find 0 [xO 6 t, xL v, xU, xI l, xU] [] M Q := by
  have hn := hw.1
  refine vTable_find_0 (qTable_placeFor hc hw (fun p hp => vTable_find_6 ?_))
  have p0 := hp.1
  have p1 := hp.2.1
  rw [hc.1]
  refine ⟨fun q => h0 (isPl_no hw hp (fun z => by omega)), fun q => ⟨fun q2 => by omega, fun q2 => ⟨by omega, ?_⟩⟩⟩
  obtain ⟨e1, e2, -⟩ := hc.2.1 p p0 (by omega)
  rw [e1, e2]
  refine ⟨fun q3 => h0 (isPl_no hw hp (fun z => q3 z.2.1)), fun q3 => ⟨by omega, fun q4 => h0 (isPl_no hw hp (fun z => q4 z.2.2)), fun q4 => h p ⟨p0, by omega, Classical.not_not.mp q3, Classical.not_not.mp q4⟩⟩⟩
theorem qTable_hasHop {d : Nat} {M : xM} {Q : xQ} {T : TB} {t g : Int} (hc : CT M t T) (h : 0 ≤ g → g < 60 → 0 < tU T g → Q (xI 1) M) (h0 : ¬ (0 ≤ g ∧ g < 60 ∧ 0 < tU T g) → Q (xI 0) M) : Ru d kTable_hasHop 0 [xO 6 t, xI g] [] M Q := by
  refine vTable_hasHop_0 ⟨fun q => h0 (by omega), fun q => ⟨fun q => h0 (by omega), fun q2 => ⟨by omega, ?_⟩⟩⟩
  rw [(hc.2.2.1 g (by omega) (by omega)).1]
  exact ⟨fun q3 => h0 (by omega), fun q3 => h (by omega) (by omega) (by omega)⟩
theorem tU_pos {T : TB} {k : Int} (h0 : 0 ≤ k) (h1 : k < tN T) : 0 < tU T (tH T k) := cnt_pos h0 (by omega) rfl
theorem tK_at {T : TB} (hw : tWF T) {k : Int} (h0 : 0 ≤ k) (h1 : k < tN T) : tK T (tH T k) = tY T (tH T k) := by
  have h2 := (hw.2.1 k h0 h1).2.2.2
  exact if_pos ⟨h2.1, h2.2, tU_pos h0 h1⟩
theorem qTable_keyOfRule {d : Nat} {M : xM} {Q : xQ} {T : TB} {t k : Int} (hc : CT M t T) (hw : tWF T) (h0 : 0 ≤ k) (h1 : k < tN T) (h : Q (xI (tK T (tH T k))) M) : Ru (d + 1) kTable_keyOfRule 0 [xO 6 t, xI k, xU] [] M Q := by
  have hn := hw.1
  have hh := (hw.2.1 k h0 h1).2.2.2
  have hu := tU_pos h0 h1
  refine vTable_keyOfRule_0 ?_
  rw [hc.1, (hc.2.1 k h0 h1).2.2 hh.1]
  refine ⟨fun q => by omega, fun q => ⟨fun q => by omega, fun q => ⟨fun q => by omega, fun q => ⟨by omega, ?_⟩⟩⟩⟩
  refine qTable_hasHop hc (fun g0 g1 g2 => vTable_keyOfRule_34 ⟨fun z => absurd z (by decide), fun _ => ⟨by omega, ?_⟩⟩) (fun z => absurd ⟨hh.1, hh.2, hu⟩ z)
  rw [(hc.2.2.1 _ hh.1 hh.2).2 hu, ← tK_at hw h0 h1]
  exact h
theorem qMo_valueOf {d : Nat} {M : xM} {Q : xQ} {T : TB} {r k : Int} (hc : RT M (r + 1) 0 T) (hw : tWF T) (h0 : 0 ≤ k) (h1 : k < tN T) (h : Q (xL (tV T k)) M) : Ru (d + 1) kMo_valueOf 0 [xO 9 r, xI k] [] M Q := by
  have hn := hw.1
  have hv := (hw.2.1 k h0 h1).1
  have e := (hc.2.2.1 k h0 h1).1
  rw [show (0 : Int) + 2 + k = 2 + k by omega] at e
  refine vMo_valueOf_0 ?_
  rw [z32_id (by omega) (by omega), e]
  refine ⟨by omega, qMo_unsigned (vMo_valueOf_11 ?_)⟩
  rw [uns_z, uns_id hv.1 hv.2]
  exact h
theorem qMo_find {d : Nat} {M : xM} {Q : xQ} {T : TB} {r v l : Int} (hc : RT M (r + 1) 0 T) (hw : tWF T) (h : ∀ p : Int, isAt T v l p → Q (xI p) M) (h0 : (∀ p : Int, ¬ isAt T v l p) → Q (xI (-1)) M) : Ru (d + 2) kMo_find 0 [xO 9 r, xL v, xU, xI l, xU] [] M Q := by
  have hn := hw.1
  refine vMo_find_0 (loop_up (tN T) (P := fun i => 0 ≤ i → (∀ k : Int, k < i → ¬ isAt T v l k) → Ru (d + 2) kMo_find 3 [xO 9 r, xL v, xU, xI l, xI i] [] M Q) (fun i hi ih i0 ha => ?_) 0 hn.1 (Int.le_refl _) (fun k h1 h2 => by have := h2.1; omega))
  refine vMo_find_3 ⟨by decide, ?_⟩
  rw [hc.1]
  refine ⟨fun q => h0 (fun k hk => ha k (by have := hk.2.1; omega) hk), fun q => ?_⟩
  have e := (hc.2.2.1 i i0 (by omega)).2.1
  rw [show (0 : Int) + 62 + i = 62 + i by omega] at e
  refine qMo_valueOf hc hw i0 (by omega) (vMo_find_20 ?_)
  rw [z32_id (x := 62 + i) (by omega) (by omega), z32_id (x := i + 1) (by omega) (by omega), e]
  have next : ¬ isAt T v l i → Ru (d + 2) kMo_find 3 [xO 9 r, xL v, xU, xI l, xI (i + 1)] [] M Q := fun hi2 => ih (i + 1) (by omega) (by omega) (by omega) (fun k k1 hk => by
    rcases (show k < i ∨ k = i by omega) with e | e
    · exact ha k e hk
    · rw [e] at hk; exact hi2 hk)
  refine ⟨fun q3 => next (fun z => q3 z.2.2.1), fun q3 => ⟨by omega, fun q4 => next (fun z => q4 z.2.2.2), fun q4 => h i ⟨i0, by omega, Classical.not_not.mp q3, Classical.not_not.mp q4⟩⟩⟩

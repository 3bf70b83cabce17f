/-! SPANS in the class. -/
def hp (T : TB) (a : Int) : Int := if rl T a = -1 then -1 else tH T (rl T a)
def hk (T : TB) (g : Int) : Int := if g = -1 then -1 else tK T g
/-- how many addresses below x a rule serves -/
def num (T : TB) (k : Int) : Nat → Int
  | 0 => 0
  | x + 1 => num T k x + one1 (rl T x = k)
theorem num_run {T : TB} {k x y : Int} (x0 : 0 ≤ x) (xy : x ≤ y) (h : ∀ a : Int, x ≤ a → a < y → rl T a = k) (j : Int) : num T j y.toNat = num T j x.toNat + if j = k then y - x else 0 := by
  refine loop_dn x (P := fun y => (∀ a : Int, x ≤ a → a < y → rl T a = k) → num T j y.toNat = num T j x.toNat + if j = k then y - x else 0) (fun y hy ih h => ?_) y xy h
  by_cases e : y = x
  · rw [e]
    split <;> omega
  · have h1 := ih (y - 1) (by omega) (by omega) (fun a a0 a1 => h a a0 (by omega))
    have h2 := h (y - 1) (by omega) (by omega)
    rw [show y.toNat = (y - 1).toNat + 1 by omega]
    show num T j (y - 1).toNat + one1 (rl T (((y - 1).toNat : Nat) : Int) = j) = _
    rw [h1, Int.toNat_of_nonneg (by omega), h2]
    by_cases ej : j = k
    · rw [if_pos ej, if_pos ej, one1_p ej.symm]; omega
    · rw [if_neg ej, if_neg ej, one1_n (fun z => ej z.symm)]; omega
theorem num_b (T : TB) (k : Int) : ∀ x : Nat, 0 ≤ num T k x ∧ num T k x ≤ x
  | 0 => ⟨Int.le_refl _, Int.le_refl _⟩
  | x + 1 => by
    have := num_b T k x
    unfold num one1
    split <;> omega
/-- all addresses below x are told -/
def SE (M : xM) (p : Int) (T : TB) (x : Int) : Prop := M p 9 = x ∧ (0 ≤ x ∧ x ≤ 4294967296) ∧ (0 ≤ M p 0 ∧ (x = 0 → M p 0 = 0) ∧ (0 < x → 1 ≤ M p 0)) ∧ (∀ i : Int, 0 ≤ i → i < M p 0 → M (p + 1) i ≤ M (p + 2) i) ∧ (0 < M p 0 → M (p + 1) 0 = 0 ∧ M (p + 2) (M p 0 - 1) = x - 1) ∧ (∀ i : Int, 0 ≤ i → i + 1 < M p 0 → M (p + 1) (i + 1) = M (p + 2) i + 1 ∧ ¬ M (p + 3) i = M (p + 3) (i + 1)) ∧ (∀ i : Int, 0 ≤ i → i < M p 0 → ∀ a : Int, M (p + 1) i ≤ a → a ≤ M (p + 2) i → hp T a = M (p + 3) i) ∧ ∀ i : Int, 0 ≤ i → i < M p 0 → M (p + 4) i = hk T (M (p + 3) i)
theorem SE_fr {M N : xM} {p x : Int} {T : TB} (h : SE M p T x) (e0 : N p 0 = M p 0) (e9 : N p 9 = M p 9) (e : ∀ b j : Int, p + 1 ≤ b → b ≤ p + 4 → N b j = M b j) : SE N p T x := by
  unfold SE
  simp only [e0, e9, e (p + 1) _ (by omega) (by omega), e (p + 2) _ (by omega) (by omega), e (p + 3) _ (by omega) (by omega), e (p + 4) _ (by omega) (by omega)]
  exact h
theorem SE_new {M N : xM} {p x y g : Int} {T : TB} (h : SE M p T x) (xy : x < y) (y1 : y ≤ 4294967296) (hg : ∀ a : Int, x ≤ a → a < y → hp T a = g) (hne : 0 < M p 0 → ¬ M (p + 3) (M p 0 - 1) = g) (n0 : N p 0 = M p 0 + 1) (n9 : N p 9 = y) (a1 : N (p + 1) (M p 0) = x) (a2 : N (p + 2) (M p 0) = y - 1) (a3 : N (p + 3) (M p 0) = g) (a4 : N (p + 4) (M p 0) = hk T g) (e : ∀ b j : Int, p + 1 ≤ b → b ≤ p + 4 → ¬ j = M p 0 → N b j = M b j) : SE N p T y := by
  obtain ⟨h1, h2, h3, h4, h5, h6, h7, h8⟩ := h
  refine ⟨n9, by omega, ⟨by omega, fun z => by omega, fun z => by omega⟩, fun i i0 i1 => ?_, fun _ => ⟨?_, ?_⟩, fun i i0 i1 => ?_, fun i i0 i1 a b1 b2 => ?_, fun i i0 i1 => ?_⟩
  · by_cases ei : i = M p 0
    · rw [ei, a1, a2]; omega
    · rw [e _ _ (by omega) (by omega) ei, e _ _ (by omega) (by omega) ei]; exact h4 i i0 (by omega)
  · by_cases ei : 0 = M p 0
    · rw [ei, a1]
      have : x = 0 := Classical.byContradiction fun z => by have := h3.2.2 (by omega); omega
      omega
    · rw [e _ _ (by omega) (by omega) ei]; exact (h5 (by omega)).1
  · rw [n0, show M p 0 + 1 - 1 = M p 0 by omega, a2]
  · by_cases ei : i + 1 = M p 0
    · rw [ei, a1, a3, e (p + 2) i (by omega) (by omega) (by omega), e (p + 3) i (by omega) (by omega) (by omega)]
      have h9 := (h5 (by omega)).2
      have h10 := hne (by omega)
      rw [show M p 0 - 1 = i by omega] at h9 h10
      exact ⟨by omega, h10⟩
    · rw [e (p + 1) _ (by omega) (by omega) ei, e (p + 2) i (by omega) (by omega) (by omega), e (p + 3) i (by omega) (by omega) (by omega), e (p + 3) (i + 1) (by omega) (by omega) ei]
      exact h6 i i0 (by omega)
  · by_cases ei : i = M p 0
    · rw [ei] at b1 b2 ⊢
      rw [a1] at b1
      rw [a2] at b2
      rw [a3]
      exact hg a b1 (by omega)
    · rw [e _ _ (by omega) (by omega) ei] at b1
      rw [e _ _ (by omega) (by omega) ei] at b2
      rw [e _ _ (by omega) (by omega) ei]
      exact h7 i i0 (by omega) a b1 b2
  · by_cases ei : i = M p 0
    · rw [ei, a4, a3]
    · rw [e _ _ (by omega) (by omega) ei, e _ _ (by omega) (by omega) ei]; exact h8 i i0 (by omega)
theorem SE_ext {M N : xM} {p x y g : Int} {T : TB} (h : SE M p T x) (xy : x < y) (y1 : y ≤ 4294967296) (hg : ∀ a : Int, x ≤ a → a < y → hp T a = g) (hm : 0 < M p 0) (heq : M (p + 3) (M p 0 - 1) = g) (n0 : N p 0 = M p 0) (n9 : N p 9 = y) (a2 : N (p + 2) (M p 0 - 1) = y - 1) (e : ∀ b j : Int, p + 1 ≤ b → b ≤ p + 4 → ¬ (b = p + 2 ∧ j = M p 0 - 1) → N b j = M b j) : SE N p T y := by
  obtain ⟨h1, h2, h3, h4, h5, h6, h7, h8⟩ := h
  have h9 := h5 hm
  refine ⟨n9, by omega, ⟨by omega, fun z => by omega, fun z => by omega⟩, fun i i0 i1 => ?_, fun _ => ⟨?_, ?_⟩, fun i i0 i1 => ?_, fun i i0 i1 a b1 b2 => ?_, fun i i0 i1 => ?_⟩
  · rw [e (p + 1) i (by omega) (by omega) (by omega)]
    have h10 := h4 i i0 (by omega)
    by_cases ei : i = M p 0 - 1
    · rw [ei] at h10 ⊢; rw [a2]; omega
    · rw [e (p + 2) i (by omega) (by omega) (by omega)]; exact h10
  · rw [e (p + 1) 0 (by omega) (by omega) (by omega)]; exact h9.1
  · rw [n0, a2]
  · rw [e (p + 1) _ (by omega) (by omega) (by omega), e (p + 2) i (by omega) (by omega) (by omega), e (p + 3) i (by omega) (by omega) (by omega), e (p + 3) (i + 1) (by omega) (by omega) (by omega)]
    exact h6 i i0 (by omega)
  · rw [e (p + 1) i (by omega) (by omega) (by omega)] at b1
    rw [e (p + 3) i (by omega) (by omega) (by omega)]
    by_cases ei : i = M p 0 - 1
    · subst ei
      rw [a2] at b2
      rcases (show a < x ∨ x ≤ a by omega) with u | u
      · exact h7 _ i0 (by omega) a b1 (by omega)
      · rw [heq]; exact hg a u (by omega)
    · rw [e (p + 2) i (by omega) (by omega) (by omega)] at b2
      exact h7 i i0 (by omega) a b1 b2
  · rw [e (p + 4) i (by omega) (by omega) (by omega), e (p + 3) i (by omega) (by omega) (by omega)]; exact h8 i i0 (by omega)
/-- what a rule has up to an address is told -/
theorem qSpans_emit {d : Nat} {M : xM} {Q : xQ} {T : TB} {p t k x y : Int} (hw : tWF T) (hc : CT M t T) (hap : p + 7 < t ∨ t + 6 < p) (h : SE M p T x) (k0 : -1 ≤ k) (k1 : k < tN T) (xy : x ≤ y + 1) (y1 : y < 4294967296) (hr : ∀ a : Int, x ≤ a → a ≤ y → rl T a = k) (hm : M p 0 ≤ 120) (hs : 0 ≤ k → 0 ≤ M (p + 5) k ∧ M (p + 5) k ≤ 4294967296)
    (kk : ∀ N : xM, SE N p T (y + 1) → (M p 0 ≤ N p 0 ∧ N p 0 ≤ M p 0 + 1) → (∀ j : Int, 0 ≤ j → N (p + 5) j = M (p + 5) j + if j = k then y + 1 - x else 0) → (∀ b j : Int, ¬ (p + 1 ≤ b ∧ b ≤ p + 5) → ¬ (b = p ∧ (j = 0 ∨ j = 9)) → N b j = M b j) → Q xU N) : Ru d kSpans_emit 0 [xO 5 p, xI k, xL y, xU, xO 6 t, xU, xU] [] M Q := by
  have hn := hw.1
  obtain ⟨h1, h2, h3, h4, h5, h6, h7, h8⟩ := id h
  refine vSpans_emit_0 ?_
  rw [h1]
  refine ⟨fun q => ?_, fun q => ?_⟩
  · -- the hop is known: g, its key
    have go : ∀ (N : xM) (g : Int), (g = hp T x) → (-1 ≤ g ∧ g < 60) → (∀ j : Int, 0 ≤ j → N (p + 5) j = M (p + 5) j + if j = k then y + 1 - x else 0) → (∀ b j : Int, ¬ b = p + 5 → N b j = M b j) → Ru d kSpans_emit 49 [xO 5 p, xI k, xL y, xU, xO 6 t, xI g, xU] [] N Q := by
      intro N g hg gb h5N hfN
      have hgall : ∀ a : Int, x ≤ a → a < y + 1 → hp T a = g := fun a a0 a1 => by
        rw [hg]
        unfold hp
        rw [hr a a0 (by omega), hr x (Int.le_refl _) (by omega)]
      have hS : SE N p T x := SE_fr h (hfN _ _ (by omega)) (hfN _ _ (by omega)) (fun b j b0 b1 => hfN b j (by omega))
      have e0 : N p 0 = M p 0 := hfN _ _ (by omega)
      have ext : 0 < M p 0 → N (p + 3) (M p 0 - 1) = g → Q xU (up (up N (p + 2) (M p 0 - 1) y) p 9 (y + 1)) := by
        intro hmp heq
        refine kk _ (SE_ext hS (by omega) (by omega) hgall (by omega) (by rw [e0]; exact heq) ?_ up_same ?_ (fun b j b0 b1 b2 => ?_)) ?_ (fun j j0 => ?_) (fun b j b0 b1 => ?_)
        · rw [up_off (by omega), up_ne (by omega)]
        · rw [e0, up_ne (by omega), up_same]; omega
        · rw [e0] at b2
          rw [up_ne (by omega), up_un (by omega)]
        · rw [up_off (by omega), up_ne (by omega), e0]; omega
        · rw [up_ne (by omega), up_ne (by omega)]; exact h5N j j0
        · rw [up_un (by omega), up_ne (by omega)]; exact hfN b j (by omega)
      have new : ∀ ky : Int, ky = hk T g → (0 < M p 0 → ¬ N (p + 3) (M p 0 - 1) = g) → Ru d kSpans_emit 122 [xO 5 p, xI k, xL y, xU, xO 6 t, xI g, xI ky] [] N Q := by
        intro ky hky hne
        refine vSpans_emit_122 ?_
        simp (disch := omega) only [up_un]
        rw [e0, hS.1, z32_id (x := M p 0 + 1) (by omega) (by omega), z64_id (x := y + 1) (by omega) (by omega)]
        refine ⟨fun z => by omega, fun _ => ⟨by omega, by omega, by omega, by omega, ?_⟩⟩
        refine kk _ (SE_new hS (y := y + 1) (by omega) (by omega) hgall (by rw [e0]; exact hne) ?_ up_same ?_ ?_ ?_ ?_ (fun b j b0 b1 b2 => ?_)) ?_ (fun j j0 => ?_) (fun b j b0 b1 => ?_)
        · rw [e0]; simp (disch := omega) only [up_un, up_at]
        · rw [e0]; simp (disch := omega) only [up_un, up_at]
        · rw [e0]; simp (disch := omega) only [up_un, up_at]; omega
        · rw [e0]; simp (disch := omega) only [up_un, up_at]
        · rw [e0, ← hky]; simp (disch := omega) only [up_un, up_at]
        · rw [e0] at b2; simp (disch := omega) only [up_un]
        · simp (disch := omega) only [up_un, up_at]; omega
        · simp (disch := omega) only [up_un]; exact h5N j j0
        · simp (disch := omega) only [up_un]; exact hfN b j (by omega)
      have both : ∀ ky : Int, ky = hk T g → ((N p 0 ≤ 0 → Ru d kSpans_emit 122 [xO 5 p, xI k, xL y, xU, xO 6 t, xI g, xI ky] [] N Q) ∧ (¬ N p 0 ≤ 0 → (121 < N p 0 → Ru d kSpans_emit 122 [xO 5 p, xI k, xL y, xU, xO 6 t, xI g, xI ky] [] N Q) ∧ (¬ 121 < N p 0 → (0 ≤ z32 (N p 0 - 1) ∧ z32 (N p 0 - 1) < ((121 : Nat) : Int)) ∧ ((¬ N (p + 3) (z32 (N p 0 - 1)) = g → Ru d kSpans_emit 122 [xO 5 p, xI k, xL y, xU, xO 6 t, xI g, xI ky] [] N Q) ∧ (¬ ¬ N (p + 3) (z32 (N p 0 - 1)) = g → (0 ≤ z32 (N p 0 - 1) ∧ z32 (N p 0 - 1) < ((121 : Nat) : Int)) ∧ Q xU (up (up N (p + 2) (z32 (N p 0 - 1)) y) p 9 (z64 (y + 1)))))))) := by
        intro ky hky
        rw [e0]
        refine ⟨fun z => new ky hky (fun z2 => by omega), fun z => ⟨fun z2 => by omega, fun _ => ?_⟩⟩
        rw [z32_id (by omega) (by omega), z64_id (by omega) (by omega)]
        exact ⟨by omega, fun z2 => new ky hky (fun _ => z2), fun z2 => ⟨by omega, ext (by omega) (Classical.not_not.mp z2)⟩⟩
      refine vSpans_emit_49 ⟨fun g0 => ?_, fun g0 => ⟨fun g1 => by omega, fun g1 => ⟨by omega, ?_⟩⟩⟩
      · exact vSpans_emit_72 (both (-1) (by unfold hk; rw [if_pos (by omega)]))
      · -- the key of a hop that is there
        have ek : rl T x = k := hr x (Int.le_refl _) (by omega)
        have kn : ¬ k = -1 := fun z => by
          unfold hp at hg
          rw [ek, if_pos z] at hg
          omega
        have hgk : g = tH T k := by
          unfold hp at hg
          rw [ek, if_neg kn] at hg
          exact hg
        have hu := tU_pos (T := T) (k := k) (by omega) k1
        have hky : N (t + 4) g = hk T g := by
          rw [hfN _ _ (by omega), hgk, (hc.2.2.1 (tH T k) (by omega) (by omega)).2 hu]
          unfold hk
          rw [if_neg (by omega), tK_pos (by omega) (by omega) hu]
        exact both _ hky
    have ek : rl T x = k := hr x (Int.le_refl _) (by omega)
    refine ⟨fun z => go M (-1) ?_ (by omega) (fun j j0 => ?_) (fun _ _ _ => rfl), fun z => ⟨fun z2 => by omega, fun z2 => ⟨by omega, by omega, by omega, ?_⟩⟩⟩
    · unfold hp
      rw [ek, if_pos (by omega)]
    · rw [if_neg (by omega)]; omega
    · obtain ⟨s0, s1⟩ := hs (by omega)
      rw [up_ne (by omega), (hc.2.1 k (by omega) k1).2.2 (hw.2.1 k (by omega) k1).2.2.2.1]
      have hh := (hw.2.1 k (by omega) k1).2.2.2
      refine go _ (tH T k) ?_ (by omega) (fun j j0 => ?_) (fun b j hb => up_ne hb)
      · unfold hp
        rw [ek, if_neg (by omega)]
      · by_cases ej : j = k
        · rw [if_pos ej, ej, up_same, z64_id (x := y - x) (by omega) (by omega), z64_id (x := y - x + 1) (by omega) (by omega), z64_id (by omega) (by omega)]; omega
        · rw [if_neg ej, up_off ej]; omega
  · have exy : y + 1 = x := by omega
    exact kk M (by rw [exy]; exact h) (by omega) (fun j _ => by rw [exy]; split <;> omega) (fun _ _ _ _ => rfl)
/-- the longest rule around a rule -/
def isOut (T : TB) (k o : Int) : Prop := (o = -1 ∧ ∀ j : Int, 0 ≤ j → j < k → ¬ inR T j (tV T k)) ∨ (0 ≤ o ∧ o < k ∧ inR T o (tV T k) ∧ ∀ j : Int, o < j → j < k → ¬ inR T j (tV T k))
/-- rules up to i are told up to address x: those that are open stand on the stack -/
def SI (M : xM) (p : Int) (T : TB) (i x : Int) : Prop := SE M p T x ∧ (0 ≤ M p 8 ∧ M p 8 ≤ 33) ∧ (∀ q : Int, 0 ≤ q → q < M p 8 → (0 ≤ M (p + 7) q ∧ M (p + 7) q < i) ∧ tV T (M (p + 7) q) ≤ x ∧ x ≤ tV T (M (p + 7) q) + wd (tL T (M (p + 7) q)) ∧ q ≤ tL T (M (p + 7) q)) ∧ (∀ j : Int, 0 ≤ j → j < i → inR T j x → ∃ q : Int, 0 ≤ q ∧ q < M p 8 ∧ M (p + 7) q = j) ∧ (∀ q q2 : Int, 0 ≤ q → q < q2 → q2 < M p 8 → M (p + 7) q < M (p + 7) q2 ∧ tV T (M (p + 7) q2) + wd (tL T (M (p + 7) q2)) ≤ tV T (M (p + 7) q) + wd (tL T (M (p + 7) q))) ∧ (∀ j : Int, 0 ≤ j → j < i → tV T j ≤ x) ∧ M p 0 + M p 8 ≤ 2 * i ∧ (∀ j : Int, 0 ≤ j → j < i → M (p + 5) j = num T j x.toNat) ∧ ∀ j : Int, 0 ≤ j → j < i → isOut T j (M (p + 6) j)
theorem rl_at {T : TB} (hw : tWF T) {k a : Int} (k0 : 0 ≤ k) (k1 : k < tN T) (hk : inR T k a) (hm : ∀ j : Int, k < j → j < tN T → ¬ inR T j a) : rl T a = k := rlB_eq k0 (by omega) hk (by omega) (fun j j0 j1 hj => absurd hj (hm j j0 (by omega)))
theorem rl_no {T : TB} {a : Int} (hn : 0 ≤ tN T) (hm : ∀ j : Int, 0 ≤ j → j < tN T → ¬ inR T j a) : rl T a = -1 := rlB_no (fun j j0 j1 hj => absurd hj (hm j j0 (by omega)))
theorem qSpans_innermost {d : Nat} {M : xM} {Q : xQ} {p : Int} (h0 : 0 ≤ M p 8) (h1 : M p 8 ≤ 33) (h : Q (xI (if M p 8 = 0 then -1 else M (p + 7) (M p 8 - 1))) M) : Ru d kSpans_innermost 0 [xO 5 p] [] M Q := by
  refine vSpans_innermost_0 ⟨fun q => ?_, fun q => ⟨fun q2 => by omega, fun _ => ?_⟩⟩
  · rw [if_pos (by omega)] at h; exact h
  · rw [if_neg (by omega)] at h
    rw [z32_id (by omega) (by omega)]
    exact ⟨by omega, h⟩
theorem qSpans_closeAhead {d : Nat} {M : xM} {Q : xQ} {T : TB} {p t i A : Int} (hw : tWF T) (hc : CT M t T) (hap : p + 7 < t ∨ t + 6 < p) (i0 : 0 ≤ i) (i1 : i ≤ tN T) (hA : A ≤ 4294967296) (hj : ∀ j : Int, i ≤ j → j < tN T → A ≤ tV T j)
    (kk : ∀ (N : xM) (x : Int), SI N p T i x → x ≤ A → (∀ q : Int, 0 ≤ q → q < N p 8 → A < tV T (N (p + 7) q) + wd (tL T (N (p + 7) q))) → (∀ b j : Int, ¬ (p ≤ b ∧ b ≤ p + 5) → N b j = M b j) → (∀ j : Int, i ≤ j → N (p + 5) j = M (p + 5) j) → Q xU N) : ∀ (x : Int) (w4 w5 : xV), SI M p T i x → x ≤ A → Ru (d + 1) kSpans_closeAhead 0 [xO 5 p, xL A, xU, xO 6 t, w4, w5, xU] [] M Q := by
  have hn := hw.1
  have main : ∀ D : Int, 0 ≤ D → ∀ (N : xM) (x : Int) (w4 w5 : xV), N p 8 = D → SI N p T i x → x ≤ A → (∀ b j : Int, ¬ (p ≤ b ∧ b ≤ p + 5) → N b j = M b j) → (∀ j : Int, i ≤ j → N (p + 5) j = M (p + 5) j) → Ru (d + 1) kSpans_closeAhead 0 [xO 5 p, xL A, xU, xO 6 t, w4, w5, xU] [] N Q := by
    refine loop_dn 0 (fun D D0 ih N x w4 w5 eD hS xA hf hf5 => ?_)
    obtain ⟨s1, s2, s3, s4, s5, s6, s7, s8, s9⟩ := id hS
    refine vSpans_closeAhead_0 ⟨fun q => kk N x hS xA (fun q2 h0 h1 => by omega) hf hf5, fun q => ?_⟩
    refine qSpans_innermost s2.1 s2.2 (vSpans_closeAhead_11 ?_)
    rw [if_neg (by omega), eD]
    have htop := s3 (D - 1) (by omega) (by omega)
    obtain ⟨⟨k0, k1⟩, v0, v1, -⟩ := htop
    generalize hk : N (p + 7) (D - 1) = k at k0 k1 v0 v1
    have hcN : CT N t T := CT_fr hc (fun b j b0 b1 => hf b j (by omega))
    obtain ⟨e1, e2, -⟩ := hcN.2.1 k k0 (by omega)
    obtain ⟨hv, hl, -⟩ := hw.2.1 k k0 (by omega)
    have w0 := wd_pos (tL T k)
    have wl := wd_le hl.1
    rw [e1, e2]
    refine ⟨fun z => by omega, fun _ => ⟨fun _ => ⟨by omega, by omega, ?_⟩, fun z => by omega⟩⟩
    refine qRS_widthOf hl.1 hl.2 (vSpans_closeAhead_43 ?_)
    rw [z64_id (x := tV T k + wd (tL T k)) (by omega) (by omega), z64_id (by omega) (by omega)]
    refine ⟨fun hend => ?_, fun hend => kk N x hS xA (fun q2 h0 h1 => ?_) hf hf5⟩
    · have top : ∀ a : Int, x ≤ a → a ≤ tV T k + wd (tL T k) - 1 → rl T a = k := by
        intro a a0 a1
        refine rl_at hw k0 (by omega) ⟨by omega, by omega⟩ (fun j j0 j1 hin => ?_)
        rcases (show j < i ∨ i ≤ j by omega) with u | u
        · have hv6 := s6 j (by omega) u
          obtain ⟨q2, h0, h1, h2⟩ := s4 j (by omega) u ⟨hv6, by have := hin.2; omega⟩
          rcases (show q2 = D - 1 ∨ q2 < D - 1 by omega) with w | w
          · rw [w, hk] at h2; omega
          · have := (s5 q2 (D - 1) h0 w (by omega)).1
            omega
        · have := hj j u j1
          have := hin.1
          omega
      have s8k := s8 k k0 k1
      have nb := num_b T k x.toNat
      have sx := s1.2.1
      refine qSpans_emit hw hcN hap s1 (by omega) (by omega) (by omega) (by omega) top (by omega) (fun _ => by omega) (fun N2 g1 g2 g3 hf2 => vSpans_closeAhead_65 ?_)
      rw [show tV T k + wd (tL T k) - 1 + 1 = tV T k + wd (tL T k) by omega] at g1
      have e8 : N2 p 8 = D := by rw [hf2 _ _ (by omega) (by omega)]; exact eD
      have e7 : ∀ z : Int, N2 (p + 7) z = N (p + 7) z := fun z => hf2 _ _ (by omega) (by omega)
      have u7 : ∀ z : Int, up N2 p 8 (D - 1) (p + 7) z = N (p + 7) z := fun z => by rw [up_ne (by omega)]; exact e7 z
      rw [e8, z32_id (by omega) (by omega)]
      refine ih (D - 1) (by omega) (by omega) _ (tV T k + wd (tL T k)) _ _ up_same ⟨?_, ?_, fun q2 h0 h1 => ?_, fun j j0 j1 hin => ?_, fun q2 q3 h0 h1 h2 => ?_, fun j j0 j1 => ?_, ?_, fun j j0 j1 => ?_, fun j j0 j1 => ?_⟩ (by omega) (fun b j hb => ?_) (fun j j0 => ?_)
      · exact SE_fr g1 (up_off (by omega)) (up_off (by omega)) (fun b j b0 b1 => up_ne (by omega))
      · rw [up_same]; omega
      · rw [up_same] at h1
        rw [u7]
        obtain ⟨c1, c2, c3, c4⟩ := s3 q2 h0 (by omega)
        have h5 := (s5 q2 (D - 1) h0 (by omega) (by omega)).2
        rw [hk] at h5
        exact ⟨c1, by omega, by omega, c4⟩
      · have hv6 := s6 j j0 j1
        obtain ⟨q2, h0, h1, h2⟩ := s4 j j0 j1 ⟨hv6, by have := hin.2; omega⟩
        refine ⟨q2, h0, ?_, by rw [u7]; exact h2⟩
        rw [up_same]
        rcases (show q2 = D - 1 ∨ q2 < D - 1 by omega) with w | w
        · exfalso
          rw [w, hk] at h2
          rw [h2] at v0
          have := hin.2
          rw [← h2] at this
          omega
        · omega
      · rw [up_same] at h2
        rw [u7, u7]
        exact s5 q2 q3 h0 h1 (by omega)
      · have := s6 j j0 j1; omega
      · rw [up_off (by omega), up_same]; omega
      · rw [up_ne (by omega), g3 j j0, s8 j j0 j1, num_run (T := T) (k := k) (x := x) (y := tV T k + wd (tL T k)) sx.1 (by omega) (fun a a0 a1 => top a a0 (by omega)) j, show tV T k + wd (tL T k) - 1 + 1 - x = tV T k + wd (tL T k) - x by omega]
      · rw [up_ne (by omega), hf2 _ _ (by omega) (by omega)]; exact s9 j j0 j1
      · rw [up_ne (by omega), hf2 _ _ (by omega) (by omega)]; exact hf b j hb
      · rw [up_ne (by omega), g3 j (by omega), if_neg (by omega), hf5 j j0]; omega
    · rcases (show q2 = D - 1 ∨ q2 < D - 1 by omega) with w | w
      · rw [w, hk]; omega
      · have := (s5 q2 (D - 1) h0 w (by omega)).2
        rw [hk] at this
        omega
  intro x w4 w5 hS xA
  exact main (M p 8) hS.2.1.1 M x w4 w5 rfl hS xA (fun _ _ _ => rfl) (fun _ _ => rfl)
/-- the spans of a table -/
def SP (M : xM) (p : Int) (T : TB) : Prop := SE M p T 4294967296 ∧ M p 0 ≤ 121 ∧ (∀ j : Int, 0 ≤ j → j < tN T → M (p + 5) j = num T j 4294967296) ∧ ∀ j : Int, 0 ≤ j → j < tN T → isOut T j (M (p + 6) j)
theorem qSpans_survey {d : Nat} {M : xM} {Q : xQ} {T : TB} {p t : Int} (hw : tWF T) (hc : CT M t T) (hap : p + 7 < t ∨ t + 6 < p) (kk : ∀ N : xM, SP N p T → (∀ b j : Int, ¬ (p ≤ b ∧ b ≤ p + 7) → N b j = M b j) → Q xU N) : Ru (d + 2) kSpans_survey 0 [xO 5 p, xO 6 t, xU] [] M Q := by
  have hn := hw.1
  refine vSpans_survey_0 (loop_up (tN T) (P := fun i => ∀ (N : xM) (x : Int), 0 ≤ i → SI N p T i x → (∀ j : Int, i ≤ j → j < tN T → x ≤ tV T j) → (∀ b j : Int, ¬ (p ≤ b ∧ b ≤ p + 7) → N b j = M b j) → Ru (d + 2) kSpans_survey 17 [xO 5 p, xO 6 t, xI i] [] N Q) (fun i hi ih N x i0 hS hx hf => ?_) 0 hn.1 _ 0 (Int.le_refl _) ?_ (fun j j0 j1 => (hw.2.1 j j0 j1).1.1) (fun b j hb => ?_))
  · have hcN : CT N t T := CT_fr hc (fun b j b0 b1 => hf b j (by omega))
    refine vSpans_survey_17 ?_
    rw [hcN.1]
    have fin : i = tN T → Ru (d + 1) kSpans_closeAhead 0 [xO 5 p, xL 4294967296, xU, xO 6 t, xU, xU, xU] [] N (fun r N => Ru (d + 2) kSpans_survey 121 [xO 5 p, xO 6 t, xI i] [] N Q) := by
      intro ei
      subst ei
      refine qSpans_closeAhead hw hcN hap i0 (Int.le_refl _) (Int.le_refl _) (fun j j0 j1 => by omega) (fun N2 y hS2 yA hq hf2 hf5 => vSpans_survey_121 ?_) x xU xU hS hS.1.2.1.2
      obtain ⟨s1, s2, s3, s4, s5, s6, s7, s8, s9⟩ := hS2
      have hD : N2 p 8 = 0 := by
        refine Classical.byContradiction fun hc9 => ?_
        have h1 := hq 0 (Int.le_refl _) (by omega)
        obtain ⟨⟨k0, k1⟩, -⟩ := s3 0 (Int.le_refl _) (by omega)
        -- a rule ends with the last address at the latest
        obtain ⟨hv, hl, hm, -⟩ := hw.2.1 _ k0 k1
        have hd1 : wd (tL T (N2 (p + 7) 0)) ∣ 4294967296 := by rw [← wd_0]; exact wd_dvd hl.1
        have hd2 := Int.dvd_sub hd1 (Int.dvd_of_emod_eq_zero hm)
        have := Int.le_of_dvd (by omega) hd2
        omega
      have hno : ∀ a : Int, y ≤ a → a ≤ 4294967295 → rl T a = -1 := by
        intro a a0 a1
        refine rl_no hn.1 (fun j j0 j1 hin => ?_)
        obtain ⟨q2, h0, h1, -⟩ := s4 j j0 j1 ⟨s6 j j0 j1, by have := hin.2; omega⟩
        omega
      have hcN2 : CT N2 t T := CT_fr hcN (fun b j b0 b1 => hf2 b j (by omega))
      refine qSpans_emit hw hcN2 hap s1 (Int.le_refl _) (by omega) (by omega) (by omega) hno (by omega) (fun z => absurd z (by decide)) (fun N3 g1 g2 g3 hf3 => vSpans_survey_130 (kk N3 ⟨g1, by omega, fun j j0 j1 => ?_, fun j j0 j1 => ?_⟩ (fun b j hb => ?_)))
      · rw [g3 j j0, if_neg (by omega), s8 j j0 j1]
        have := num_run (T := T) (k := -1) (x := y) (y := 4294967296) s1.2.1.1 yA (fun a a0 a1 => hno a a0 (by omega)) j
        rw [if_neg (by omega)] at this
        exact this.symm
      · rw [hf3 _ _ (by omega) (by omega)]; exact s9 j j0 j1
      · rw [hf3 b j (by omega) (by omega), hf2 b j (by omega)]; exact hf b j hb
    refine ⟨fun q => fin (by omega), fun q => ⟨fun q2 => by omega, fun q2 => ⟨by omega, by omega, ?_⟩⟩⟩
    obtain ⟨e1, -⟩ := hcN.2.1 i i0 (by omega)
    rw [up_ne (by omega), e1]
    obtain ⟨hv, hl, -⟩ := hw.2.1 i i0 (by omega)
    have w0 := wd_pos (tL T i)
    have hsrt : ∀ j : Int, i ≤ j → j < tN T → tV T i ≤ tV T j := fun j j0 j1 => by
      rcases (show i = j ∨ i < j by omega) with u | u
      · rw [u]; exact Int.le_refl _
      · have := hw.2.2.1 i j i0 u j1; omega
    have hSu : SI (up N (p + 5) i 0) p T i x := by
      obtain ⟨s1, s2, s3, s4, s5, s6, s7, s8, s9⟩ := hS
      have u8 : up N (p + 5) i 0 p 8 = N p 8 := up_ne (by omega)
      have u0 : up N (p + 5) i 0 p 0 = N p 0 := up_ne (by omega)
      have u7 : ∀ z : Int, up N (p + 5) i 0 (p + 7) z = N (p + 7) z := fun z => up_ne (by omega)
      have u6 : ∀ z : Int, up N (p + 5) i 0 (p + 6) z = N (p + 6) z := fun z => up_ne (by omega)
      unfold SI
      simp only [u8, u0, u7, u6]
      refine ⟨SE_fr s1 u0 (up_ne (by omega)) (fun b j b0 b1 => up_ne (by omega)), s2, s3, s4, s5, s6, s7, fun j j0 j1 => ?_, s9⟩
      rw [up_off (by omega)]; exact s8 j j0 j1
    refine qSpans_closeAhead hw (CT_fr hcN (fun b j b0 b1 => up_ne (by omega))) hap i0 hi (by omega) hsrt (fun N2 y hS2 yA hq hf2 hf5 => vSpans_survey_49 ?_) x xU xU hSu (hx i (Int.le_refl _) (by omega))
    obtain ⟨s1, s2, s3, s4, s5, s6, s7, s8, s9⟩ := hS2
    have hcN2 : CT N2 t T := CT_fr hcN (fun b j b0 b1 => by rw [hf2 b j (by omega), up_ne (by omega)])
    refine qSpans_innermost s2.1 s2.2 (vSpans_survey_58 ?_)
    rw [up_same, up_ne (by omega), (hcN2.2.1 i i0 (by omega)).1, z64_id (by omega) (by omega)]
    refine ⟨by omega, by omega, by omega, ?_⟩
    -- the rule around
    have hin : ∀ j : Int, 0 ≤ j → j < i → ∀ a : Int, y ≤ a → a ≤ tV T i → inR T j a → ∃ q : Int, 0 ≤ q ∧ q < N2 p 8 ∧ N2 (p + 7) q = j := fun j j0 j1 a a0 a1 hj => s4 j j0 j1 ⟨s6 j j0 j1, by have := hj.2; omega⟩
    generalize ho : (if N2 p 8 = 0 then (-1 : Int) else N2 (p + 7) (N2 p 8 - 1)) = o
    have o0 : -1 ≤ o ∧ o < i := by
      rw [← ho]
      split
      · omega
      · have := s3 (N2 p 8 - 1) (by omega) (by omega); omega
    have otop : ∀ j : Int, 0 ≤ j → j < i → ∀ a : Int, y ≤ a → a ≤ tV T i → inR T j a → j ≤ o := by
      intro j j0 j1 a a0 a1 hj
      obtain ⟨q2, h0, h1, h2⟩ := hin j j0 j1 a a0 a1 hj
      rw [← ho, if_neg (by omega)]
      rcases (show q2 = N2 p 8 - 1 ∨ q2 < N2 p 8 - 1 by omega) with w | w
      · rw [← h2, w]; exact Int.le_refl _
      · have := (s5 q2 (N2 p 8 - 1) h0 w (by omega)).1
        omega
    have oin : 0 ≤ o → ∀ a : Int, y ≤ a → a ≤ tV T i → inR T o a := by
      intro z a a0 a1
      have hD : ¬ N2 p 8 = 0 := fun e => by rw [if_pos e] at ho; omega
      rw [if_neg hD] at ho
      have h3 := s3 (N2 p 8 - 1) (by omega) (by omega)
      have h4 := hq (N2 p 8 - 1) (by omega) (by omega)
      rw [ho] at h3 h4
      exact ⟨by omega, by omega⟩
    have hrl : ∀ a : Int, y ≤ a → a ≤ tV T i - 1 → rl T a = o := by
      intro a a0 a1
      have hlate : ∀ j : Int, i ≤ j → j < tN T → ¬ inR T j a := fun j j0 j1 hj => by have := hsrt j j0 j1; have := hj.1; omega
      rcases (show o = -1 ∨ 0 ≤ o by omega) with u | u
      · rw [u]
        refine rl_no hn.1 (fun j j0 j1 hj => ?_)
        rcases (show j < i ∨ i ≤ j by omega) with w | w
        · have := otop j j0 w a a0 (by omega) hj; omega
        · exact hlate j w j1 hj
      · refine rl_at hw u (by omega) (oin u a a0 (by omega)) (fun j j0 j1 hj => ?_)
        rcases (show j < i ∨ i ≤ j by omega) with w | w
        · have := otop j (by omega) w a a0 (by omega) hj; omega
        · exact hlate j w j1 hj
    have hout : isOut T i o := by
      rcases (show o = -1 ∨ 0 ≤ o by omega) with u | u
      · exact Or.inl ⟨u, fun j j0 j1 hj => by have := otop j j0 j1 (tV T i) (by omega) (Int.le_refl _) hj; omega⟩
      · exact Or.inr ⟨u, o0.2, oin u (tV T i) (by omega) (Int.le_refl _), fun j j0 j1 hj => by have := otop j (by omega) j1 (tV T i) (by omega) (Int.le_refl _) hj; omega⟩
    have hSE2 : SE (up N2 (p + 6) i o) p T y := SE_fr s1 (up_ne (by omega)) (up_ne (by omega)) (fun b j b0 b1 => up_ne (by omega))
    refine qSpans_emit hw (CT_fr hcN2 (fun b j b0 b1 => up_ne (by omega))) hap hSE2 o0.1 (by omega) (by omega) (by omega) hrl (by rw [up_ne (by omega)]; omega) (fun z => ?_) (fun N3 g1 g2 g3 hf3 => vSpans_survey_78 ?_)
    · rw [up_ne (by omega), s8 o z o0.2]
      have := num_b T o y.toNat
      have := s1.2.1
      omega
    · rw [show tV T i - 1 + 1 = tV T i by omega] at g1
      rw [up_ne (by omega)] at g2
      have e8 : N3 p 8 = N2 p 8 := by rw [hf3 _ _ (by omega) (by omega), up_ne (by omega)]
      have e7 : ∀ z : Int, N3 (p + 7) z = N2 (p + 7) z := fun z => by rw [hf3 _ _ (by omega) (by omega), up_ne (by omega)]
      -- rules that are open are longer and longer
      have hdep : N2 p 8 ≤ tL T i := by
        by_cases e : N2 p 8 = 0
        · omega
        · have h3 := s3 (N2 p 8 - 1) (by omega) (by omega)
          rw [if_neg e] at ho
          rw [ho] at h3
          have h4 := (nest hw (i := o) (j := i) (a := tV T i) (by omega) o0.2 (by omega) (oin (by omega) _ yA (Int.le_refl _)) ⟨Int.le_refl _, by omega⟩).1
          omega
      rw [e8, up_ne (by omega), e8, z32_id (x := i + 1) (by omega) (by omega), z32_id (x := N2 p 8 + 1) (by omega) (by omega)]
      refine ⟨fun z => by omega, fun _ => ⟨by omega, ?_⟩⟩
      have v7 : ∀ z : Int, up (up N3 (p + 7) (N2 p 8) i) p 8 (N2 p 8 + 1) (p + 7) z = if z = N2 p 8 then i else N2 (p + 7) z := fun z => by
        rw [up_ne (by omega)]
        by_cases e : z = N2 p 8
        · rw [if_pos e, e, up_same]
        · rw [if_neg e, up_off e, e7]
      refine ih (i + 1) (by omega) (by omega) _ (tV T i) (by omega) ⟨?_, ?_, fun q2 h0 h1 => ?_, fun j j0 j1 hj => ?_, fun q2 q3 h0 h1 h2 => ?_, fun j j0 j1 => ?_, ?_, fun j j0 j1 => ?_, fun j j0 j1 => ?_⟩ (fun j j0 j1 => hsrt j (by omega) j1) (fun b j hb => ?_)
      · exact SE_fr g1 (by rw [up_off (by omega), up_ne (by omega)]) (by rw [up_off (by omega), up_ne (by omega)]) (fun b j b0 b1 => by rw [up_ne (by omega), up_ne (by omega)])
      · rw [up_same]; omega
      · rw [up_same] at h1
        rw [v7]
        by_cases e : q2 = N2 p 8
        · rw [if_pos e]; exact ⟨⟨i0, by omega⟩, Int.le_refl _, by omega, by omega⟩
        · rw [if_neg e]
          obtain ⟨c1, c2, c3, c4⟩ := s3 q2 h0 (by omega)
          have := hq q2 h0 (by omega)
          exact ⟨⟨c1.1, by omega⟩, by omega, by omega, c4⟩
      · rcases (show j = i ∨ j < i by omega) with e | e
        · exact ⟨N2 p 8, s2.1, by rw [up_same]; omega, by rw [v7, if_pos rfl, e]⟩
        · obtain ⟨q2, h0, h1, h2⟩ := hin j j0 e (tV T i) yA (Int.le_refl _) hj
          exact ⟨q2, h0, by rw [up_same]; omega, by rw [v7, if_neg (by omega)]; exact h2⟩
      · rw [up_same] at h2
        rw [v7, v7, if_neg (by omega)]
        by_cases e : q3 = N2 p 8
        · rw [if_pos e]
          obtain ⟨c1, c2, c3, c4⟩ := s3 q2 h0 (by omega)
          have h5 := hq q2 h0 (by omega)
          have h6 := nest hw (i := N2 (p + 7) q2) (j := i) (a := tV T i) c1.1 c1.2 (by omega) ⟨by omega, h5⟩ ⟨Int.le_refl _, by omega⟩
          exact ⟨c1.2, h6.2.2⟩
        · rw [if_neg e]; exact s5 q2 q3 h0 h1 (by omega)
      · rcases (show j = i ∨ j < i by omega) with e | e
        · rw [e]; exact Int.le_refl _
        · have := s6 j j0 e; omega
      · rw [up_off (by omega), up_ne (by omega), up_same]; omega
      · rw [up_ne (by omega), up_ne (by omega), g3 j j0, up_ne (by omega)]
        have hrun := num_run (T := T) (k := o) (x := y) (y := tV T i) s1.2.1.1 yA (fun a a0 a1 => hrl a a0 (by omega)) j
        rw [show tV T i - 1 + 1 - y = tV T i - y by omega]
        rcases (show j = i ∨ j < i by omega) with e | e
        · rw [e, hf5 i (Int.le_refl _), up_same]
          -- a rule serves no address ahead of it
          have hz : ∀ y : Int, y ≤ tV T i → 0 ≤ y → num T i y.toNat = 0 := by
            intro y hy y0
            refine loop_dn 0 (P := fun y => y ≤ tV T i → num T i y.toNat = 0) (fun y y0 ihy hy => ?_) y y0 hy
            by_cases e0 : y = 0
            · rw [e0]; rfl
            · have h1 := ihy (y - 1) (by omega) (by omega) (by omega)
              rw [show y.toNat = (y - 1).toNat + 1 by omega]
              show num T i (y - 1).toNat + one1 (rl T (((y - 1).toNat : Nat) : Int) = i) = 0
              rw [h1, Int.toNat_of_nonneg (by omega), one1_n (fun z => by
                have := (rl_in hw (y - 1)).2.2 (by omega)
                rw [z] at this
                have := this.1
                omega)]
              omega
          rw [if_neg (by omega), hz (tV T i) (Int.le_refl _) (by omega)]
          omega
        · rw [s8 j j0 e, hrun]
      · rw [up_ne (by omega), up_ne (by omega), hf3 _ _ (by omega) (by omega)]
        rcases (show j = i ∨ j < i by omega) with e | e
        · rw [e, up_same]; exact hout
        · rw [up_off (by omega)]; exact s9 j j0 e
      · rw [up_ne (by omega), up_ne (by omega), hf3 b j (by omega) (by omega), up_ne (by omega), hf2 b j (by omega), up_ne (by omega)]; exact hf b j hb
  · refine ⟨⟨up_same, by omega, ⟨?_, fun _ => ?_, fun z => by omega⟩, fun i i0 i1 => ?_, fun z => ?_, fun i i0 i1 => ?_, fun i i0 i1 => ?_, fun i i0 i1 => ?_⟩, ?_, fun q q0 q1 => ?_, fun j j0 j1 => by omega, fun q q2 q0 q1 q3 => ?_, fun j j0 j1 => by omega, ?_, fun j j0 j1 => by omega, fun j j0 j1 => by omega⟩ <;> (try simp (disch := omega) only [up_un, up_at] at *) <;> omega
  · simp (disch := omega) only [up_un]

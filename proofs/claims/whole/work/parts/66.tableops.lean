/-! TABLES: dropped rules, copies, the first table. -/
theorem qTable_drop {d : Nat} {M : xM} {Q : xQ} {T : TB} {t p : Int} (hw : tWF T) (hc : CT M t T) (p0 : 0 ≤ p) (p1 : p < tN T) (h : ∀ N : xM, CT N t (delT T p) → (∀ b j : Int, b < t ∨ t + 5 < b → N b j = M b j) → Q xU N) : Ru (d + 2) kTable_drop 0 [xO 6 t, xI p, xU] [] M Q := by
  have hn := hw.1
  refine vTable_drop_0 ?_
  rw [hc.1, (hc.2.1 p p0 p1).2.2 (hw.2.1 p p0 p1).2.2.2.1]
  refine ⟨fun q => by omega, fun q => ⟨fun q => by omega, fun q => ⟨fun _ => ⟨by omega, ?_⟩, fun q => by omega⟩⟩⟩
  refine qTable_release hw hc p0 p1 (fun N h5 hf => vTable_drop_29 ?_)
  rw [z32_id (by omega) (by omega)]
  refine loop_up (tN T) (P := fun i => ∀ N2 : xM, p < i → N2 t 0 = tN T → (∀ j : Int, 0 ≤ j → j < i - 1 → N2 (t + 1) j = delF (tV T) p j ∧ N2 (t + 2) j = delF (tL T) p j ∧ N2 (t + 3) j = delF (tH T) p j) → (∀ j : Int, i ≤ j → j < tN T → N2 (t + 1) j = tV T j ∧ N2 (t + 2) j = tL T j ∧ N2 (t + 3) j = tH T j) → (∀ b j : Int, ¬ b = t + 1 → ¬ b = t + 2 → ¬ b = t + 3 → N2 b j = N b j) → Ru (d + 2) kTable_drop 33 [xO 6 t, xI p, xI i] [] N2 Q) (fun i hi ih N2 ip e0 e1 e2 hf2 => ?_) (p + 1) (by omega) N (by omega) ?_ (fun j j0 j1 => ?_) (fun j j0 j1 => ?_) (fun _ _ _ _ _ => rfl)
  · refine vTable_drop_33 ?_
    rw [e0]
    have fin : i = tN T → Q xU (up N2 t 0 (z32 (tN T - 1))) := by
      intro ei
      rw [z32_id (by omega) (by omega)]
      refine h _ ⟨up_same, fun k k0 k1 => ?_, fun g g0 g1 => ?_, ?_, fun z z0 z1 => ?_⟩ (fun b j hb => ?_)
      · have k1 : k < tN T - 1 := k1
        obtain ⟨f1, f2, f3⟩ := e1 k k0 (by omega)
        rw [up_ne (by omega), up_ne (by omega), up_ne (by omega)]
        exact ⟨f1, f2, fun _ => f3⟩
      · rw [up_ne (by omega), up_ne (by omega), hf2 _ _ (by omega) (by omega) (by omega), hf2 _ _ (by omega) (by omega) (by omega), h5 g g0 g1, tU_del p0 p1, hf _ _ (by omega)]
        refine ⟨rfl, fun hu => (hc.2.2.1 g g0 g1).2 ?_⟩
        unfold one1 at hu
        split at hu <;> omega
      · rw [up_off (by omega), hf2 _ _ (by omega) (by omega) (by omega), hf _ _ (by omega)]; exact hc.2.2.2.1
      · rw [up_ne (by omega), hf2 _ _ (by omega) (by omega) (by omega), hf _ _ (by omega)]; exact hc.2.2.2.2 z z0 z1
      · rw [up_ne (by omega), hf2 _ _ (by omega) (by omega) (by omega), hf _ _ (by omega)]
    refine ⟨fun q => fin (by omega), fun q => ⟨fun q2 => by omega, fun q2 => ?_⟩⟩
    obtain ⟨f1, f2, f3⟩ := e2 i (by omega) (by omega)
    rw [z32_id (x := i - 1) (by omega) (by omega), z32_id (x := i + 1) (by omega) (by omega)]
    refine ⟨by omega, by omega, by omega, by omega, by omega, by omega, ih (i + 1) (by omega) (by omega) _ (by omega) ?_ (fun j j0 j1 => ?_) (fun j j0 j1 => ?_) (fun b j h1 h2 h3 => ?_)⟩
    · simp (disch := omega) only [up_un]; exact e0
    · rcases (show j = i - 1 ∨ j < i - 1 by omega) with e | e
      · subst e
        rw [delF_ge (by omega), delF_ge (by omega), delF_ge (by omega), show i - 1 + 1 = i by omega]
        simp (disch := omega) only [up_un, up_at]
        exact ⟨f1, f2, f3⟩
      · simp (disch := omega) only [up_un]
        exact e1 j j0 e
    · simp (disch := omega) only [up_un]
      exact e2 j (by omega) j1
    · simp (disch := omega) only [up_un]
      exact hf2 b j h1 h2 h3
  · rw [hf _ _ (by omega)]; exact hc.1
  · rw [delF_lt (by omega), delF_lt (by omega), delF_lt (by omega), hf _ _ (by omega), hf _ _ (by omega), hf _ _ (by omega)]
    exact ⟨(hc.2.1 j j0 (by omega)).1, (hc.2.1 j j0 (by omega)).2.1, (hc.2.1 j j0 (by omega)).2.2 (hw.2.1 j j0 (by omega)).2.2.2.1⟩
  · rw [hf _ _ (by omega), hf _ _ (by omega), hf _ _ (by omega)]
    exact ⟨(hc.2.1 j (by omega) j1).1, (hc.2.1 j (by omega) j1).2.1, (hc.2.1 j (by omega) j1).2.2 (hw.2.1 j (by omega) j1).2.2.2.1⟩
theorem qMo_drops {d : Nat} {M : xM} {Q : xQ} {T : TB} {r p : Int} (hw : tWF T) (hc : RN M (r + 1) T (tK T)) (p0 : 0 ≤ p) (p1 : p < tN T) (h : ∀ N : xM, RN N (r + 1) (delT T p) (tK (delT T p)) → (∀ b j : Int, ¬ b = r + 1 → N b j = M b j) → Q xU N) : Ru (d + 2) kMo_drops 0 [xO 9 r, xI p, xU, xU] [] M Q := by
  have hn := hw.1
  have hz := hw.2.2.2.2.2.1
  have hh := (hw.2.1 p p0 p1).2.2.2
  refine vMo_drops_0 ?_
  rw [z32_id (by omega) (by omega), (hc.2.2.1 p p0 p1).2.2]
  refine ⟨by omega, loop_up (tN T - 1) (P := fun i => ∀ N2 : xM, p ≤ i → N2 (r + 1) 0 = tN T → N2 (r + 1) 1 = tZ T → (∀ j : Int, 0 ≤ j → j < i → N2 (r + 1) (2 + j) = z32 (delF (tV T) p j) ∧ N2 (r + 1) (62 + j) = delF (tL T) p j ∧ N2 (r + 1) (122 + j) = delF (tH T) p j) → (∀ j : Int, i < j → j < tN T → N2 (r + 1) (2 + j) = z32 (tV T j) ∧ N2 (r + 1) (62 + j) = tL T j ∧ N2 (r + 1) (122 + j) = tH T j) → (∀ g : Int, 0 ≤ g → g ≤ 60 → N2 (r + 1) (182 + g) = tK T g) → (∀ z : Int, 0 ≤ z → z < tZ T → N2 (r + 1) (243 + z) = tS T z) → (∀ b j : Int, ¬ b = r + 1 → N2 b j = M b j) → Ru (d + 2) kMo_drops 12 [xO 9 r, xI p, xI (tH T p), xI i] [] N2 Q) (fun i hi ih N2 ip e0 e9 e1 e2 e3 e4 hf => ?_) p (by omega) M (Int.le_refl _) hc.1 hc.2.1 (fun j j0 j1 => ?_) (fun j j0 j1 => hc.2.2.1 j (by omega) j1) hc.2.2.2.1 hc.2.2.2.2 (fun _ _ _ => rfl)⟩
  · refine vMo_drops_12 ⟨by decide, ?_⟩
    rw [e0, z32_id (x := i + 1) (by omega) (by omega), z32_id (x := tN T - 1) (by omega) (by omega)]
    refine ⟨fun q => ⟨by decide, by decide, ?_⟩, fun q => ?_⟩
    · refine qMo_frees (T := delT T p) (K := tK T) ⟨by show 0 ≤ tN T - 1; omega, by show tN T - 1 ≤ 60; omega⟩ hz.2 ⟨up_same, ?_, fun k k0 k1 => ?_, fun g g0 g1 => ?_, fun z z0 z1 => ?_⟩ hh.1 (by omega) (fun N hN hf2 => vMo_drops_53 (h N (RN_K hN (fun k k0 k1 => (tK_del (h := k) p0 p1).symm)) (fun b j hb => by rw [hf2 b j hb, up_ne hb, hf b j hb])))
      · rw [up_off (by omega)]; exact e9
      · have k1 : k < tN T - 1 := k1
        rw [up_off (by omega), up_off (by omega), up_off (by omega)]
        exact e1 k k0 (by omega)
      · rw [up_off (by omega)]; exact e3 g g0 g1
      · have z1 : z < tZ T := z1
        rw [up_off (by omega)]; exact e4 z z0 z1
    · refine qMo_copies (by omega) (by omega) (by omega) (by omega) (fun N c1 c2 c3 c4 => vMo_drops_32 ?_)
      rw [z32_id (by omega) (by omega)]
      obtain ⟨f1, f2, f3⟩ := e2 (i + 1) (by omega) (by omega)
      refine ih (i + 1) (by omega) (by omega) N (by omega) ?_ ?_ (fun j j0 j1 => ?_) (fun j j0 j1 => ?_) (fun g g0 g1 => ?_) (fun z z0 z1 => ?_) (fun b j hb => ?_)
      · rw [c4 _ _ (by omega)]; exact e0
      · rw [c4 _ _ (by omega)]; exact e9
      · rcases (show j = i ∨ j < i by omega) with e | e
        · rw [e, c1, c2, c3, delF_ge ip, delF_ge ip, delF_ge ip]; exact ⟨f1, f2, f3⟩
        · rw [c4 _ _ (by omega), c4 _ _ (by omega), c4 _ _ (by omega)]; exact e1 j j0 e
      · rw [c4 _ _ (by omega), c4 _ _ (by omega), c4 _ _ (by omega)]; exact e2 j (by omega) j1
      · rw [c4 _ _ (by omega)]; exact e3 g g0 g1
      · rw [c4 _ _ (by omega)]; exact e4 z z0 z1
      · rw [c4 _ _ (fun z => hb z.1)]; exact hf b j hb
  · rw [delF_lt (by omega), delF_lt (by omega), delF_lt (by omega)]
    exact hc.2.2.1 j j0 (by omega)
theorem qTable_copyStrides {d : Nat} {M : xM} {Q : xQ} {t s : Int} (hap : t + 6 < s ∨ s + 6 < t) (h : ∀ N : xM, N t 6 = M s 6 → (∀ j : Int, 0 ≤ j → j < 16 → N (t + 6) j = M (s + 6) j) → (∀ b j : Int, ¬ b = t + 6 → ¬ (b = t ∧ j = 6) → N b j = M b j) → Q xU N) : Ru d kTable_copyStrides 0 [xO 6 t, xO 6 s, xU] [] M Q := by
  refine vTable_copyStrides_0 (loop_up 16 (P := fun i => ∀ N : xM, 0 ≤ i → N t 6 = M s 6 → (∀ j : Int, 0 ≤ j → j < i → N (t + 6) j = M (s + 6) j) → (∀ b j : Int, ¬ b = t + 6 → ¬ (b = t ∧ j = 6) → N b j = M b j) → Ru d kTable_copyStrides 10 [xO 6 t, xO 6 s, xI i] [] N Q) (fun i hi ih N i0 e0 e1 hf => ?_) 0 (by decide) _ (Int.le_refl _) up_same (fun j j0 j1 => by omega) (fun b j h1 h2 => up_un (by omega)))
  refine vTable_copyStrides_10 ⟨fun q => h N e0 (fun j j0 j1 => e1 j j0 (by omega)) hf, fun q => ?_⟩
  rw [z32_id (by omega) (by omega), hf (s + 6) i (by omega) (by omega)]
  refine ⟨by omega, by omega, ih (i + 1) (by omega) (by omega) _ (by omega) ?_ (fun j j0 j1 => ?_) (fun b j h1 h2 => ?_)⟩
  · rw [up_ne (by omega)]; exact e0
  · by_cases e : j = i
    · rw [e, up_same]
    · rw [up_off e]; exact e1 j j0 (by omega)
  · rw [up_ne h1]; exact hf b j h1 h2
theorem qTable_copyFrom {d : Nat} {M : xM} {Q : xQ} {t s : Int} (hap : t + 6 < s ∨ s + 6 < t) (h : ∀ N : xM, (∀ T : TB, tZ T ≤ 16 → tN T ≤ 60 → CT M s T → CT N t T) → (∀ b j : Int, b < t ∨ t + 6 < b → N b j = M b j) → Q xU N) : Ru (d + 1) kTable_copyFrom 0 [xO 6 t, xO 6 s, xU] [] M Q := by
  refine vTable_copyFrom_0 (loop_up 60 (P := fun i => ∀ N : xM, 0 ≤ i → N t 0 = M s 0 → (∀ j : Int, 0 ≤ j → j < i → N (t + 1) j = M (s + 1) j ∧ N (t + 2) j = M (s + 2) j ∧ N (t + 3) j = M (s + 3) j ∧ N (t + 4) j = M (s + 4) j ∧ N (t + 5) j = M (s + 5) j) → (∀ b j : Int, b < t ∨ t + 6 < b → N b j = M b j) → Ru (d + 1) kTable_copyFrom 10 [xO 6 t, xO 6 s, xI i] [] N Q) (fun i hi ih N i0 e0 e1 hf => ?_) 0 (by decide) _ (Int.le_refl _) up_same (fun j j0 j1 => by omega) (fun b j h1 => up_ne (by omega)))
  refine vTable_copyFrom_10 ⟨fun q => ?_, fun q => ?_⟩
  · refine qTable_copyStrides hap (fun N2 g0 g1 hf2 => vTable_copyFrom_87 (h N2 (fun T hz hn hc => ⟨?_, fun k k0 k1 => ?_, fun k k0 k1 => ?_, ?_, fun l l0 l1 => ?_⟩) (fun b j hb => ?_)))
    · rw [hf2 _ _ (by omega) (by omega), e0]; exact hc.1
    · obtain ⟨a1, a2, a3, -⟩ := e1 k k0 (by omega)
      rw [hf2 _ _ (by omega) (by omega), hf2 _ _ (by omega) (by omega), hf2 _ _ (by omega) (by omega), a1, a2, a3]; exact hc.2.1 k k0 k1
    · obtain ⟨-, -, -, a1, a2⟩ := e1 k k0 (by omega)
      rw [hf2 _ _ (by omega) (by omega), hf2 _ _ (by omega) (by omega), a1, a2]; exact hc.2.2.1 k k0 k1
    · rw [g0, hf _ _ (by omega)]; exact hc.2.2.2.1
    · rw [g1 l l0 (by omega), hf _ _ (by omega)]; exact hc.2.2.2.2 l l0 l1
    · rw [hf2 _ _ (by omega) (by omega), hf _ _ hb]
  · rw [z32_id (by omega) (by omega)]
    refine ⟨by omega, by omega, by omega, by omega, by omega, by omega, by omega, by omega, by omega, by omega, ih (i + 1) (by omega) (by omega) _ (by omega) ?_ (fun j j0 j1 => ?_) (fun b j hb => ?_)⟩
    · simp (disch := omega) only [up_un]; exact e0
    · by_cases e : j = i
      · subst e
        simp (disch := omega) only [up_un, up_at]
        rw [hf _ _ (by omega), hf _ _ (by omega), hf _ _ (by omega), hf _ _ (by omega), hf _ _ (by omega)]
        exact ⟨rfl, rfl, rfl, rfl, rfl⟩
      · simp (disch := omega) only [up_un]
        exact e1 j j0 (by omega)
    · simp (disch := omega) only [up_un]
      exact hf b j hb

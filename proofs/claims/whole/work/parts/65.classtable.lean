/-! TABLES in the class. -/
theorem CT_fr {M N : xM} {t : Int} {T : TB} (h : CT M t T) (e : ∀ b j : Int, t ≤ b → b ≤ t + 6 → N b j = M b j) : CT N t T := by
  unfold CT at h ⊢
  rw [e t 0 (by omega) (by omega), e t 6 (by omega) (by omega)]
  refine ⟨h.1, fun k k0 k1 => ?_, fun g g0 g1 => ?_, h.2.2.2.1, fun l l0 l1 => ?_⟩
  · rw [e _ _ (by omega) (by omega), e _ _ (by omega) (by omega), e _ _ (by omega) (by omega)]; exact h.2.1 k k0 k1
  · rw [e _ _ (by omega) (by omega), e _ _ (by omega) (by omega)]; exact h.2.2.1 g g0 g1
  · rw [e _ _ (by omega) (by omega)]; exact h.2.2.2.2 l l0 l1
theorem qTable_release {d : Nat} {M : xM} {Q : xQ} {T : TB} {t p : Int} (hw : tWF T) (hc : CT M t T) (p0 : 0 ≤ p) (p1 : p < tN T) (h : ∀ N : xM, (∀ g : Int, 0 ≤ g → g < 60 → N (t + 5) g = tU T g - one1 (tH T p = g)) → (∀ b j : Int, ¬ b = t + 5 → N b j = M b j) → Q xU N) : Ru (d + 1) kTable_release 0 [xO 6 t, xI (tH T p)] [] M Q := by
  have hh := (hw.2.1 p p0 p1).2.2.2
  have hu := tU_pos p0 p1
  have hl := tU_le hw (tH T p)
  refine vTable_release_0 (qTable_hasHop hc (fun g0 g1 g2 => vTable_release_5 ⟨fun z => absurd z (by decide), fun _ => ⟨by omega, by omega, ?_⟩⟩) (fun z => absurd ⟨hh.1, hh.2, hu⟩ z))
  rw [(hc.2.2.1 _ hh.1 hh.2).1, z32_id (by omega) (by omega)]
  refine h _ (fun g g0 g1 => ?_) (fun b j hb => up_ne hb)
  by_cases e : tH T p = g
  · rw [one1_p e, ← e, up_same]
  · rw [one1_n e, up_off (fun z => e z.symm), (hc.2.2.1 g g0 g1).1]
    omega
/-- a hop for a code, in a table in which one rule has none -/
theorem qTable_takeHop {d : Nat} {M : xM} {Q : xQ} {T : TB} {t c p : Int} (hw : tW1 T p) (hc : CT M t T) (h : ∀ (N : xM) (g : Int), isHop T c g → (∀ k : Int, 0 ≤ k → k < 60 → N (t + 5) k = tU T k + one1 (g = k)) → N (t + 4) g = c → (∀ k : Int, ¬ k = g → N (t + 4) k = M (t + 4) k) → (∀ b j : Int, ¬ b = t + 4 → ¬ b = t + 5 → N b j = M b j) → Q (xI g) N) : Ru d kTable_takeHop 0 [xO 6 t, xI c, xU, xU] [] M Q := by
  obtain ⟨w1, ⟨p0, p1, p2⟩, -, -, -, -, -⟩ := hw
  have hcl : ∀ k : Int, tU T k ≤ 60 := fun k => by
    have h1 := cnt_le (tH T) k (tN T).toNat
    unfold tU
    omega
  refine vTable_takeHop_0 (loop_dn (-1) (P := fun i => ∀ f : Int, i < 60 → (∀ k : Int, i < k → k < 60 → ¬ (0 < tU T k ∧ tY T k = c)) → ((f = -1 ∧ ∀ k : Int, i < k → k < 60 → 0 < tU T k) ∨ (i < f ∧ f < 60 ∧ tU T f = 0 ∧ ∀ k : Int, i < k → k < f → 0 < tU T k)) → Ru d kTable_takeHop 5 [xO 6 t, xI c, xI f, xI i] [] M Q) (fun i i0 ih f i1 hno hf => ?_) 59 (by decide) (-1) (by decide) (fun k k0 k1 => by omega) (Or.inl ⟨rfl, fun k k0 k1 => by omega⟩))
  refine vTable_takeHop_5 ⟨fun q => ⟨fun q2 => ?_, fun q2 => ⟨by omega, by omega, ?_⟩⟩, fun q => ?_⟩
  · -- no hop is free: cannot be
    obtain ⟨g, g0, g1, g2⟩ := free_hop (H := tH T) (n := (tN T).toNat) (p := p) (by omega) p0 (by omega) p2
    have g2 : tU T g = 0 := g2
    rcases hf with hf | hf
    · have := hf.2 g (by omega) g1; omega
    · omega
  · rcases hf with hf | ⟨f0, f1, f2, f3⟩
    · omega
    · refine h _ f ⟨by omega, f1, Or.inr ⟨fun k k0 k1 => hno k (by omega) k1, f2, fun k k0 k1 => f3 k (by omega) k1⟩⟩ (fun k k0 k1 => ?_) ?_ (fun k hk => ?_) (fun b j h4 h5 => ?_)
      · by_cases e : f = k
        · rw [one1_p e, ← e, up_same, f2]; rfl
        · rw [one1_n e, up_off (fun z => e z.symm), up_ne (by omega), (hc.2.2.1 k k0 k1).1]
          omega
      · rw [up_ne (by omega), up_same]
      · rw [up_ne (by omega), up_off hk]
      · rw [up_ne h5, up_ne h4]
  · have hu := hc.2.2.1 i (by omega) i1
    have hnn := tU_nn T i
    have hl := hcl i
    rw [hu.1, z32_id (x := i + -1) (by omega) (by omega)]
    have nx : ¬ (0 < tU T i ∧ tY T i = c) → 0 < tU T i → Ru d kTable_takeHop 5 [xO 6 t, xI c, xI f, xI (i + -1)] [] M Q := fun hq hpos => ih (i + -1) (by omega) (by omega) f (by omega) (fun k k0 k1 => by
        rcases (show k = i ∨ i < k by omega) with e | e
        · rw [e]; exact hq
        · exact hno k e k1) (by
        rcases hf with hf | ⟨f0, f1, f2, f3⟩
        · refine Or.inl ⟨hf.1, fun k k0 k1 => ?_⟩
          rcases (show k = i ∨ i < k by omega) with e | e
          · rw [e]; exact hpos
          · exact hf.2 k e k1
        · refine Or.inr ⟨by omega, f1, f2, fun k k0 k1 => ?_⟩
          rcases (show k = i ∨ i < k by omega) with e | e
          · rw [e]; exact hpos
          · exact f3 k e k1)
    have nz : tU T i = 0 → Ru d kTable_takeHop 5 [xO 6 t, xI c, xI i, xI (i + -1)] [] M Q := fun hz => ih (i + -1) (by omega) (by omega) i (by omega) (fun k k0 k1 => by
        rcases (show k = i ∨ i < k by omega) with e | e
        · rw [e]; omega
        · exact hno k e k1) (Or.inr ⟨by omega, i1, hz, fun k k0 k1 => by omega⟩)
    refine ⟨by omega, fun q2 => ⟨by omega, fun q3 => by omega, fun q3 => nz (by omega)⟩, fun q2 => ⟨by omega, fun q3 => ⟨by omega, fun q4 => nx (fun z => q3 (by rw [hu.2 z.1]; exact z.2)) (by omega), fun q4 => by omega⟩, fun q3 => ⟨by omega, by omega, ?_⟩⟩⟩
    have q3 := Classical.not_not.mp q3
    have hi : 0 < tU T i := by omega
    rw [z32_id (by omega) (by omega)]
    refine h _ i ⟨by omega, i1, Or.inl ⟨hi, by rw [← hu.2 hi]; exact q3⟩⟩ (fun k k0 k1 => ?_) (by rw [up_ne (by omega)]; exact q3) (fun k hk => up_ne (by omega)) (fun b j h4 h5 => up_ne h5)
    by_cases e : i = k
    · rw [one1_p e, ← e, up_same]
    · rw [one1_n e, up_off (fun z => e z.symm), (hc.2.2.1 k k0 k1).1]
      omega
/-- the last part of a put -/
theorem qTable_put_59 {d : Nat} {M : xM} {Q : xQ} {T : TB} {t v l c p : Int} (hw : tW1 T p) (hc : CT M t T) (h : ∀ (N : xM) (g : Int), isHop T c g → CT N t (setH T p g c) → (∀ b j : Int, b < t ∨ t + 5 < b → N b j = M b j) → Q (xI g) N) : Ru (d + 1) kTable_put 59 [xO 6 t, xL v, xU, xI l, xI c, xI p] [] M Q := by
  have hw2 := hw
  obtain ⟨w1, ⟨p0, p1, p2⟩, -, -, -, -, -⟩ := hw2
  refine vTable_put_59 ⟨fun _ => qTable_takeHop hw hc (fun N g hg h5 h4 h4n hf => vTable_put_78 ⟨by omega, by omega, ?_⟩), fun z => absurd p0 z⟩
  rw [up_same]
  have g0 := hg.1
  have g1 := hg.2.1
  refine h _ g hg ⟨?_, fun k k0 k1 => ⟨?_, ?_, fun z => ?_⟩, fun k k0 k1 => ⟨?_, fun hu => ?_⟩, ?_, fun z z0 z1 => ?_⟩ (fun b j hb => ?_)
  · rw [up_ne (by omega), hf _ _ (by omega) (by omega)]; exact hc.1
  · rw [up_ne (by omega), hf _ _ (by omega) (by omega)]; exact (hc.2.1 k k0 k1).1
  · rw [up_ne (by omega), hf _ _ (by omega) (by omega)]; exact (hc.2.1 k k0 k1).2.1
  · have z : 0 ≤ uf (tH T) p g k := z
    show _ = uf (tH T) p g k
    by_cases e : k = p
    · rw [uf_at e, e, up_same]
    · rw [uf_ne e] at z ⊢
      rw [up_off e, hf _ _ (by omega) (by omega)]; exact (hc.2.1 k k0 k1).2.2 z
  · rw [up_ne (by omega), h5 k k0 k1, tU_set p0 p1 p2 k0]
  · rw [tU_set p0 p1 p2 k0] at hu
    show _ = uf (tY T) g c k
    rw [up_ne (by omega)]
    by_cases e : k = g
    · rw [uf_at e, e]; exact h4
    · rw [one1_n (fun q => e q.symm)] at hu
      rw [uf_ne e, h4n k e]; exact (hc.2.2.1 k k0 k1).2 (by omega)
  · rw [up_ne (by omega), hf _ _ (by omega) (by omega)]; exact hc.2.2.2.1
  · rw [up_ne (by omega), hf _ _ (by omega) (by omega)]; exact hc.2.2.2.2 z z0 z1
  · rw [up_ne (by omega), hf _ _ (by omega) (by omega)]
/-- while a rule comes in -/
def cI (N : xM) (t : Int) (T : TB) (k : Int) : Prop := N t 0 = tN T ∧ (∀ j : Int, 0 ≤ j → j < k → N (t + 1) j = tV T j ∧ N (t + 2) j = tL T j ∧ N (t + 3) j = tH T j) ∧ (∀ j : Int, k < j → j ≤ tN T → N (t + 1) j = tV T (j - 1) ∧ N (t + 2) j = tL T (j - 1) ∧ N (t + 3) j = tH T (j - 1))
theorem qTable_makeRoom {d : Nat} {M : xM} {Q : xQ} {T : TB} {t v l : Int} (hw : tWF T) (hc : CT M t T) (hr : tN T < 60) (h : ∀ (N : xM) (p : Int), isPl T v l p → CT N t (insT T p v l) → (∀ b j : Int, b < t ∨ t + 3 < b → N b j = M b j) → Q (xI p) N) : Ru (d + 1) kTable_makeRoom 0 [xO 6 t, xL v, xU, xI l, xU, xU] [] M Q := by
  have hn := hw.1
  refine vTable_makeRoom_0 ?_
  rw [hc.1]
  refine ⟨fun _ => qTable_placeFor hc hw (fun p hp => vTable_makeRoom_17 ?_), fun z => absurd hr z⟩
  have p0 := hp.1
  have p1 := hp.2.1
  rw [hc.1]
  refine loop_dn p (P := fun k => ∀ N : xM, k ≤ tN T → cI N t T k → (∀ b j : Int, b < t ∨ t + 3 < b ∨ (b = t ∧ j = 6) → N b j = M b j) → Ru (d + 1) kTable_makeRoom 25 [xO 6 t, xL v, xU, xI l, xI p, xI k] [] N Q) (fun k k0 ih N kn hI hf => ?_) (tN T) p1 M (Int.le_refl _) ⟨hc.1, fun j j0 j1 => ⟨(hc.2.1 j j0 j1).1, (hc.2.1 j j0 j1).2.1, (hc.2.1 j j0 j1).2.2 (hw.2.1 j j0 j1).2.2.2.1⟩, fun j j0 j1 => by omega⟩ (fun _ _ _ => rfl)
  obtain ⟨i1, i3, i4⟩ := hI
  refine vTable_makeRoom_25 ⟨fun q => ⟨by omega, by omega, ?_⟩, fun q => ?_⟩
  · have ek : k = p := by omega
    subst ek
    rw [up_ne (by omega), up_ne (by omega), i1, z32_id (by omega) (by omega)]
    refine h _ k hp ⟨up_same, fun j j0 j1 => ?_, fun g g0 g1 => ?_, ?_, fun z z0 z1 => ?_⟩ (fun b j hb => ?_)
    · have j1 : j < tN T + 1 := j1
      show _ = insF (tV T) k v j ∧ _ = insF (tL T) k l j ∧ (0 ≤ insF (tH T) k (-1) j → _ = insF (tH T) k (-1) j)
      rcases (show j < k ∨ j = k ∨ k < j by omega) with e | e | e
      · obtain ⟨f1, f2, f3⟩ := i3 j j0 e
        rw [insF_lt e, insF_lt e, insF_lt e]
        refine ⟨?_, ?_, fun _ => ?_⟩
        · rw [up_ne (by omega), up_ne (by omega), up_off (by omega)]; exact f1
        · rw [up_ne (by omega), up_off (by omega), up_ne (by omega)]; exact f2
        · rw [up_ne (by omega), up_ne (by omega), up_ne (by omega)]; exact f3
      · rw [insF_at e, insF_at e, insF_at e, e]
        refine ⟨?_, ?_, fun z => absurd z (by decide)⟩
        · rw [up_ne (by omega), up_ne (by omega), up_same]
        · rw [up_ne (by omega), up_same]
      · obtain ⟨f1, f2, f3⟩ := i4 j e (by omega)
        rw [insF_gt e, insF_gt e, insF_gt e]
        refine ⟨?_, ?_, fun _ => ?_⟩
        · rw [up_ne (by omega), up_ne (by omega), up_off (by omega)]; exact f1
        · rw [up_ne (by omega), up_off (by omega), up_ne (by omega)]; exact f2
        · rw [up_ne (by omega), up_ne (by omega), up_ne (by omega)]; exact f3
    · rw [up_ne (by omega), up_ne (by omega), up_ne (by omega), up_ne (by omega), up_ne (by omega), up_ne (by omega), hf _ _ (by omega), hf _ _ (by omega), tU_ins p0 p1 g0]
      exact hc.2.2.1 g g0 g1
    · rw [up_off (by omega), up_ne (by omega), up_ne (by omega), hf _ _ (by omega)]; exact hc.2.2.2.1
    · rw [up_ne (by omega), up_ne (by omega), up_ne (by omega), hf _ _ (by omega)]; exact hc.2.2.2.2 z z0 z1
    · rw [up_ne (by omega), up_ne (by omega), up_ne (by omega), hf _ _ (by omega)]
  · rw [z32_id (x := k - 1) (by omega) (by omega), z32_id (x := k + -1) (by omega) (by omega)]
    obtain ⟨f1, f2, f3⟩ := i3 (k - 1) (by omega) (by omega)
    refine ⟨by omega, by omega, by omega, by omega, by omega, by omega, ih (k + -1) (by omega) (by omega) _ (by omega) ⟨?_, fun j j0 j1 => ⟨?_, ?_, ?_⟩, fun j j0 j1 => ⟨?_, ?_, ?_⟩⟩ (fun b j hb => ?_)⟩
    · rw [up_ne (by omega), up_ne (by omega), up_ne (by omega)]; exact i1
    · rw [up_ne (by omega), up_ne (by omega), up_off (by omega)]; exact (i3 j j0 (by omega)).1
    · rw [up_ne (by omega), up_off (by omega), up_ne (by omega)]; exact (i3 j j0 (by omega)).2.1
    · rw [up_off (by omega), up_ne (by omega), up_ne (by omega)]; exact (i3 j j0 (by omega)).2.2
    · rw [up_ne (by omega), up_ne (by omega)]
      rcases (show j = k ∨ k < j by omega) with e | e
      · rw [e, up_same]; exact f1
      · rw [up_off (by omega)]; exact (i4 j e j1).1
    · rw [up_ne (by omega)]
      rcases (show j = k ∨ k < j by omega) with e | e
      · rw [e, up_same, up_ne (by omega)]; exact f2
      · rw [up_off (by omega), up_ne (by omega)]; exact (i4 j e j1).2.1
    · rcases (show j = k ∨ k < j by omega) with e | e
      · rw [e, up_same, up_ne (by omega), up_ne (by omega)]; exact f3
      · rw [up_off (by omega), up_ne (by omega), up_ne (by omega)]; exact (i4 j e j1).2.2
    · rw [up_ne (by omega), up_ne (by omega), up_ne (by omega)]; exact hf b j hb
theorem qTable_put {d : Nat} {M : xM} {Q : xQ} {T : TB} {t v l c : Int} (hw : tWF T) (hc : CT M t T) (v0 : 0 ≤ v) (v1 : v < 4294967296) (l0 : 0 ≤ l) (l1 : l ≤ 32) (hv : v % wd l = 0) (c0 : 0 ≤ c) (c1 : c ≤ 999) (hroom : (∀ k, ¬ isAt T v l k) → tN T < 60)
    (h : ∀ (T2 : TB) (N : xM) (p : Int), isPut T v l c T2 → isAt T2 v l p → CT N t T2 → (∀ b j : Int, b < t ∨ t + 5 < b → N b j = M b j) → Q (xI (tH T2 p)) N) : Ru (d + 2) kTable_put 0 [xO 6 t, xL v, xU, xI l, xI c, xU] [] M Q := by
  have hn := hw.1
  refine vTable_put_0 (qTable_find hc hw (fun p hp => vTable_put_6 ⟨fun q => absurd hp.1 (by omega), fun _ => ?_⟩) (fun hno => vTable_put_6 ⟨fun _ => vTable_put_32 ⟨fun _ => ?_, fun z => absurd (by decide) z⟩, fun z => absurd (by decide) z⟩))
  · obtain ⟨p0, p1, p2, p3⟩ := id hp
    refine qTable_keyOfRule hc hw p0 p1 (vTable_put_19 ⟨fun q => vTable_put_32 ⟨fun z => by omega, fun _ => ⟨by omega, ?_⟩⟩, fun q => ⟨by omega, ?_⟩⟩)
    · rw [(hc.2.1 p p0 p1).2.2 (hw.2.1 p p0 p1).2.2.2.1]
      refine qTable_release hw hc p0 p1 (fun N h5 hf => vTable_put_48 (qTable_put_59 (T := clrH T p) (tW1_clr hw p0 p1) ⟨?_, fun k k0 k1 => ⟨?_, ?_, fun z => ?_⟩, fun k k0 k1 => ⟨?_, fun hu => ?_⟩, ?_, fun z z0 z1 => ?_⟩ (fun N2 g hg hN hf2 => ?_)))
      · rw [hf _ _ (by omega)]; exact hc.1
      · rw [hf _ _ (by omega)]; exact (hc.2.1 k k0 k1).1
      · rw [hf _ _ (by omega)]; exact (hc.2.1 k k0 k1).2.1
      · have z : 0 ≤ uf (tH T) p (-1) k := z
        show _ = uf (tH T) p (-1) k
        by_cases e : k = p
        · rw [uf_at e] at z; omega
        · rw [uf_ne e] at z ⊢
          rw [hf _ _ (by omega)]; exact (hc.2.1 k k0 k1).2.2 z
      · rw [h5 k k0 k1, tU_clr p0 p1 k0]
      · rw [hf _ _ (by omega)]; exact (hc.2.2.1 k k0 k1).2 (used_clr p0 p1 k0 hu)
      · rw [hf _ _ (by omega)]; exact hc.2.2.2.1
      · rw [hf _ _ (by omega)]; exact hc.2.2.2.2 z z0 z1
      · have := h _ N2 p (Or.inr (Or.inl ⟨p, g, hp, q, hg, rfl⟩)) ⟨p0, p1, p2, p3⟩ hN (fun b j hb => by rw [hf2 b j hb, hf b j (by omega)])
        rw [show tH (setH (clrH T p) p g c) p = g from uf_at rfl] at this
        exact this
    · rw [(hc.2.1 p p0 p1).2.2 (hw.2.1 p p0 p1).2.2.2.1]
      exact h T M p (Or.inl ⟨p, hp, Classical.not_not.mp q, rfl⟩) hp hc (fun _ _ _ => rfl)
  · have hr := hroom hno
    refine qTable_makeRoom hw hc hr (fun N p hp hN hf => vTable_put_57 (qTable_put_59 (tW1_ins hw hp hno hr v0 v1 l0 l1 hv) hN (fun N2 g hg hN2 hf2 => ?_)))
    have := h _ N2 p (Or.inr (Or.inr ⟨p, g, hno, hp, hr, hg, rfl⟩)) ⟨hp.1, by have := hp.2.1; show p < tN T + 1; omega, insF_at rfl, insF_at rfl⟩ hN2 (fun b j hb => by rw [hf2 b j hb, hf b j (by omega)])
    rw [show tH (setH (insT T p v l) p g c) p = g from uf_at rfl] at this
    exact this

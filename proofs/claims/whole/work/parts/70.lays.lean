/-! A TABLE IS LAID in the reference: its rows, lengths, nodes. -/
theorem plS_in {T : TB} (hw : tWF T) {x : Int} (h : plS T (tN T) x) : 0 ≤ x ∧ x < 4294967296 := by
  rcases h with h | ⟨k, k0, k1, h⟩
  · omega
  · obtain ⟨hv, -⟩ := hw.2.1 k k0 k1
    have := wd_pos (tL T k)
    rcases h with h | h <;> omega
def pk (N : xM) (r m k : Int) : Int := if k < m then N (r + 11) k else 4294967296
theorem plc_0 {N : xM} {T : TB} {r m : Int} (hw : tWF T) (h : isPlc N r m (plS T (tN T))) : 1 ≤ m ∧ N (r + 11) 0 = 0 := by
  obtain ⟨-, h2, h3, h4, h5⟩ := h
  obtain ⟨i, i0, i1, i2⟩ := h5 0 (Or.inl rfl)
  refine ⟨by omega, ?_⟩
  have h6 := (plS_in hw (h4 0 (Int.le_refl _) (by omega))).1
  rcases (show i = 0 ∨ 0 < i by omega) with e | e
  · rw [e] at i2; exact i2
  · have := h3 0 i (Int.le_refl _) e i1
    omega
theorem plc_up {N : xM} {T : TB} {r m k : Int} (hw : tWF T) (h : isPlc N r m (plS T (tN T))) (k0 : 0 ≤ k) (k1 : k < m) : N (r + 11) k < pk N r m (k + 1) := by
  unfold pk
  by_cases e : k + 1 < m
  · rw [if_pos e]; exact h.2.2.1 k (k + 1) k0 (by omega) e
  · rw [if_neg e]; exact (plS_in hw (h.2.2.2.1 k k0 k1)).2
theorem plc_const {N : xM} {T : TB} {r m k a : Int} (hw : tWF T) (h : isPlc N r m (plS T (tN T))) (k0 : 0 ≤ k) (k1 : k < m) (a0 : N (r + 11) k ≤ a) (a1 : a < pk N r m (k + 1)) : rl T a = rl T (N (r + 11) k) := by
  have hn := hw.1
  obtain ⟨-, h2, h3, h4, h5⟩ := h
  have gap : ∀ x : Int, plS T (tN T) x → N (r + 11) k < x → x ≤ a → False := by
    intro x hx x0 x1
    obtain ⟨i, i0, i1, i2⟩ := h5 x hx
    rcases (show i ≤ k ∨ k < i by omega) with e | e
    · rcases (show i = k ∨ i < k by omega) with e2 | e2
      · rw [e2] at i2; omega
      · have := h3 i k i0 e2 k1; omega
    · unfold pk at a1
      rw [if_pos (by omega)] at a1
      rcases (show i = k + 1 ∨ k + 1 < i by omega) with e2 | e2
      · rw [e2] at i2; omega
      · have := h3 (k + 1) i (by omega) e2 i1; omega
  have ha : a < 4294967296 := by
    unfold pk at a1
    split at a1
    · rename_i e
      have := (plS_in hw (h4 (k + 1) (by omega) e)).2
      omega
    · exact a1
  refine rlB_cg (fun j j0 j1 => ?_)
  have hv := (hw.2.1 j j0 (by omega)).1
  constructor
  · intro hi
    refine ⟨Classical.byContradiction fun hc => gap (tV T j) (Or.inr ⟨j, j0, by omega, Or.inl rfl⟩) (by omega) hi.1, by have := hi.2; omega⟩
  · intro hi
    refine ⟨by have := hi.1; omega, Classical.byContradiction fun hc => gap (tV T j + wd (tL T j)) (Or.inr ⟨j, j0, by omega, Or.inr ⟨rfl, by omega⟩⟩) hi.2 (by omega)⟩
theorem qMo_codeBy {d na : Nat} {M : xM} {Q : xQ} {T : TB} {c o k : Int} (hw : tWF T) (hc : RT M c o T) (o0 : 0 ≤ o) (o1 : o + 259 ≤ na) (o2 : (na : Int) ≤ 10000) (k0 : -1 ≤ k) (k1 : k < tN T) (h : Q (xI (cd T k)) M) : Ru d kMo_codeBy 0 [xAI na c, xI o, xI k] [] M Q := by
  have hn := hw.1
  refine vMo_codeBy_0 ⟨fun q => ?_, fun q => ?_⟩
  · have hh := (hw.2.1 k (by omega) k1).2.2.2
    have e := (hc.2.2.1 k (by omega) k1).2.2
    rw [z32_id (x := o + 122) (by omega) (by omega), z32_id (x := o + 122 + k) (by omega) (by omega), e, z32_id (x := o + 182) (by omega) (by omega), z32_id (x := o + 182 + tH T k) (by omega) (by omega), hc.2.2.2.1 _ hh.1 (by omega)]
    refine ⟨by omega, by omega, ?_⟩
    unfold cd at h
    rw [if_neg q] at h
    exact h
  · have q := Classical.not_not.mp q
    unfold cd at h
    rw [if_pos q] at h
    exact h
/-- rows and lengths of a table that is laid -/
def RW (M : xM) (r t : Int) (T : TB) : Prop := isRows T (M (r + 5) t) (fun i => M (r + 6) (124 * t + i)) (fun i => M (r + 7) (124 * t + i)) ∧ M (r + 5) t ≤ 121 ∧ M (r + 8) t = tZ T ∧ (∀ l : Int, 0 ≤ l → l < tZ T → M (r + 9) (16 * t + l) = tS T l) ∧ ∀ l : Int, 0 ≤ l → l ≤ tZ T → M (r + 10) (17 * t + l) = tB (tS T) l.toNat
/-- what laying a table changes -/
def chT (r t b j : Int) : Prop := (b = r ∧ (j = 12 ∨ (t = 0 ∧ (j = 15 ∨ j = 19)))) ∨ (b = r + 5 ∧ j = t) ∨ (b = r + 6 ∧ 124 * t ≤ j ∧ j < 124 * t + 124) ∨ (b = r + 7 ∧ 124 * t ≤ j ∧ j < 124 * t + 124) ∨ (b = r + 8 ∧ j = t) ∨ (b = r + 9 ∧ 16 * t ≤ j ∧ j < 16 * t + 16) ∨ (b = r + 10 ∧ 17 * t ≤ j ∧ j < 17 * t + 17) ∨ b = r + 11 ∨ b = r + 12 ∨ (t = 0 ∧ (b = r + 13 ∨ b = r + 14 ∨ b = r + 15))
theorem qMo_laysTable {d na : Nat} {M : xM} {Q : xQ} {T : TB} {r t c o : Int} (hw : tWF T) (hc : RT M c o T) (o0 : 0 ≤ o) (o1 : o + 259 ≤ na) (o2 : (na : Int) ≤ 10000) (ht : t = 0 ∨ t = 1) (c1 : ¬ c = r) (c2 : c < r + 5 ∨ r + 15 < c)
    (h : ∀ N : xM, RW N r t T → (t = 0 → NS N r T (N (r + 5) 0) (N (r + 6)) ∧ N r 19 = 0) → (∀ b j : Int, ¬ chT r t b j → N b j = M b j) → Q xU N) : Ru (d + 5) kMo_laysTable 0 [xO 9 r, xI t, xAI na c, xI o, xU, xU, xU] [] M Q := by
  have hn := hw.1
  have hZ := hw.2.2.2.2.2.1
  refine vMo_laysTable_0 (qMo_laysPlaces hw hc o0 o1 o2 c1 (by omega) (by omega) (fun N0 m hp hm hr hf0 => vMo_laysTable_6 ?_))
  obtain ⟨pm, p0⟩ := plc_0 hw hp
  have pm1 := hp.1
  have hct : ∀ {N : xM}, (∀ b j : Int, ¬ chT r t b j → N b j = M b j) → RT N c o T := by
    intro N hf
    have e : ∀ j : Int, N c j = M c j := fun j => hf c j (by unfold chT; omega)
    unfold RT at hc ⊢
    simp only [e]
    exact hc
  refine loop_up m (P := fun k => ∀ (N : xM) (n : Int) (w6 : xV), 0 ≤ k → 0 ≤ n → n ≤ k → (0 < k → 1 ≤ n) → (∀ j : Int, N (r + 11) j = N0 (r + 11) j) → (∀ j : Int, N (r + 12) j = N0 (r + 12) j) → N r 12 = m → (0 < n → N (r + 6) (124 * t) = 0) → (∀ j : Int, 0 ≤ j → j + 1 < n → N (r + 6) (124 * t + j) < N (r + 6) (124 * t + (j + 1)) ∧ ¬ N (r + 7) (124 * t + j) = N (r + 7) (124 * t + (j + 1))) → (0 < n → N (r + 6) (124 * t + (n - 1)) < pk N0 r m k) → (∀ j : Int, 0 ≤ j → j < n → ∀ a : Int, N (r + 6) (124 * t + j) ≤ a → a < (if j + 1 < n then N (r + 6) (124 * t + (j + 1)) else pk N0 r m k) → cod T a = N (r + 7) (124 * t + j)) → (∀ b j : Int, ¬ chT r t b j → N b j = M b j) → Ru (d + 5) kMo_laysTable 12 [xO 9 r, xI t, xAI na c, xI o, xI n, xI k, w6] [] N Q) (fun k hk ih N n w6 k0 n0 nk kn g11 g12 gm f0 f1 f2 f3 hf => ?_) 0 hp.2.1 N0 0 xU (Int.le_refl _) (Int.le_refl _) (Int.le_refl _) (fun z => by omega) (fun _ => rfl) (fun _ => rfl) pm1 (fun z => by omega) (fun j j0 j1 => by omega) (fun z => by omega) (fun j j0 j1 => by omega) (fun b j hb => hf0 b j (by unfold chT at hb; omega) (by unfold chT at hb; omega) (by unfold chT at hb; omega))
  have hcN := hct hf
  refine vMo_laysTable_12 ?_
  rw [gm]
  refine ⟨fun q => ?_, fun q => ⟨by omega, ?_⟩⟩
  · -- all rows stand
    have ek : k = m := by omega
    subst ek
    have n1 := kn (by omega)
    have ep : pk N0 r k k = 4294967296 := if_neg (by omega)
    have hrows : isRows T n (fun i => N (r + 6) (124 * t + i)) (fun i => N (r + 7) (124 * t + i)) := by
      refine ⟨n1, ?_, fun i i0 i1 => ?_, fun i i0 i1 a a0 a1 => ?_, fun i i0 i1 => (f1 i i0 i1).2⟩
      · show N (r + 6) (124 * t + 0) = 0
        rw [show 124 * t + 0 = 124 * t by omega]; exact f0 (by omega)
      · by_cases e : i + 1 < n
        · rw [nxF_in e]; exact (f1 i i0 e).1
        · rw [nxF_end e]
          have := f2 (by omega)
          rw [ep, show n - 1 = i by omega] at this
          exact this
      · refine f3 i i0 i1 a a0 ?_
        by_cases e : i + 1 < n
        · rw [nxF_in e] at a1; rw [if_pos e]; exact a1
        · rw [nxF_end e] at a1; rw [if_neg e, ep]; exact a1
    rw [z32_id (x := o + 1) (by omega) (by omega), z32_id (x := 17 * t) (by omega) (by omega), up_ne (by omega), hcN.2.1]
    refine ⟨by omega, by omega, by omega, by omega, ?_⟩
    refine loop_up (tZ T) (P := fun l => ∀ (N2 : xM) (w6 : xV), 0 ≤ l → N2 (r + 5) t = n → N2 (r + 8) t = tZ T → (∀ j : Int, 0 ≤ j → j < l → N2 (r + 9) (16 * t + j) = tS T j) → (∀ j : Int, 0 ≤ j → j ≤ l → N2 (r + 10) (17 * t + j) = tB (tS T) j.toNat) → (∀ j : Int, N2 (r + 6) j = N (r + 6) j ∧ N2 (r + 7) j = N (r + 7) j) → (∀ b j : Int, ¬ chT r t b j → N2 b j = M b j) → Ru (d + 5) kMo_laysTable 136 [xO 9 r, xI t, xAI na c, xI o, xI n, xI l, w6] [] N2 Q) (fun l hl ihl N2 w6 l0 b1 b2 b3 b4 b5 hf2 => ?_) 0 (by omega) _ w6 (Int.le_refl _) ?_ ?_ (fun j j0 j1 => by omega) (fun j j0 j1 => ?_) (fun j => ⟨?_, ?_⟩) (fun b j hb => ?_)
    · have hcN2 := hct hf2
      refine vMo_laysTable_136 ?_
      rw [z32_id (x := o + 1) (by omega) (by omega), hcN2.2.1]
      have hRW : l = tZ T → RW N2 r t T := by
        intro el
        have e6 : (fun i => N2 (r + 6) (124 * t + i)) = fun i => N (r + 6) (124 * t + i) := funext fun i => (b5 _).1
        have e7 : (fun i => N2 (r + 7) (124 * t + i)) = fun i => N (r + 7) (124 * t + i) := funext fun i => (b5 _).2
        unfold RW
        rw [b1, e6, e7]
        exact ⟨hrows, by omega, b2, fun j j0 j1 => b3 j j0 (by omega), fun j j0 j1 => b4 j j0 (by omega)⟩
      refine ⟨by omega, fun q2 => ⟨fun q3 => vMo_laysTable_219 (h N2 (hRW (by omega)) (fun z => absurd z q3) hf2), fun q3 => ?_⟩, fun q2 => ?_⟩
      · have t0 : t = 0 := Classical.not_not.mp q3
        subst t0
        have hRW1 := hRW (by omega)
        have e6 : (fun i => N2 (r + 6) (124 * 0 + i)) = N2 (r + 6) := funext fun i => by rw [show (124 : Int) * 0 + i = i by omega]
        have hr2 := hRW1.1
        rw [b1, e6] at hr2
        refine qMo_laysNodes hw hr2 (by omega) b1 b2 (fun j j0 j1 => by have := b4 j j0 (by omega); rw [show (17 : Int) * 0 + j = j by omega] at this; exact this) (fun N3 hN3 c19 hf3 => vMo_laysTable_219 (h N3 ?_ (fun _ => ?_) (fun b j hb => ?_)))
        · have g : ∀ b j : Int, r + 4 < b → b < r + 13 → N3 b j = N2 b j := fun b j h1 h2 => hf3 b j (by omega) (by omega) (by omega) (by omega)
          unfold RW
          simp only [g (r + 5) _ (by omega) (by omega), g (r + 6) _ (by omega) (by omega), g (r + 7) _ (by omega) (by omega), g (r + 8) _ (by omega) (by omega), g (r + 9) _ (by omega) (by omega), g (r + 10) _ (by omega) (by omega)]
          exact hRW1
        · have e9 : N3 (r + 6) = N2 (r + 6) := funext fun j => hf3 (r + 6) j (by omega) (by omega) (by omega) (by omega)
          rw [hf3 (r + 5) 0 (by omega) (by omega) (by omega) (by omega), b1, e9]
          exact ⟨hN3, c19⟩
        · rw [hf3 b j (by unfold chT at hb; omega) (by unfold chT at hb; omega) (by unfold chT at hb; omega) (by unfold chT at hb; omega)]; exact hf2 b j hb
      · have hs := hw.2.2.2.2.2.2.1 l l0 (by omega)
        have hb := tB_hi hw (l := l) l0 (by omega)
        have hb2 := tB_hi hw (l := l + 1) (by omega) (by omega)
        rw [z32_id (x := o + 243) (by omega) (by omega), z32_id (x := o + 243 + l) (by omega) (by omega), z32_id (x := 16 * t) (by omega) (by omega), z32_id (x := 16 * t + l) (by omega) (by omega), z32_id (x := 17 * t) (by omega) (by omega), z32_id (x := 17 * t + l) (by omega) (by omega), z32_id (x := 17 * t + l + 1) (by omega) (by omega), z32_id (x := l + 1) (by omega) (by omega), up_ne (show ¬ c = r + 9 by omega), hcN2.2.2.2.2 l l0 (by omega), up_ne (by omega), b4 l l0 (Int.le_refl _), z32_id (by rw [tB_s _ l0] at hb2; omega) (by rw [tB_s _ l0] at hb2; omega)]
        refine ⟨by omega, by omega, by omega, by omega, by omega, ihl (l + 1) (by omega) (by omega) _ _ (by omega) ?_ ?_ (fun j j0 j1 => ?_) (fun j j0 j1 => ?_) (fun j => ⟨?_, ?_⟩) (fun b j hb => ?_)⟩
        · simp (disch := omega) only [up_un]; exact b1
        · simp (disch := omega) only [up_un]; exact b2
        · rw [up_ne (by omega)]
          by_cases e : j = l
          · rw [e, up_same]
          · rw [up_off (by omega)]; exact b3 j j0 (by omega)
        · by_cases e : j = l + 1
          · rw [e, show 17 * t + (l + 1) = 17 * t + l + 1 by omega, up_same, tB_s _ l0]
          · rw [up_off (by omega), up_ne (by omega)]; exact b4 j j0 (by omega)
        · simp (disch := omega) only [up_un]; exact (b5 j).1
        · simp (disch := omega) only [up_un]; exact (b5 j).2
        · unfold chT at hb
          rw [up_un (by omega), up_un (by omega)]; exact hf2 b j (by unfold chT; exact hb)
    · simp (disch := omega) only [up_un, up_at]
    · simp (disch := omega) only [up_un, up_at]
    · rw [show j = 0 by omega, show 17 * t + 0 = 17 * t by omega, up_same]; rfl
    · simp (disch := omega) only [up_un]
    · simp (disch := omega) only [up_un]
    · have hb2 := hb
      unfold chT at hb
      rw [up_un (by omega), up_un (by omega), up_un (by omega)]; exact hf b j hb2
  · -- one more place
    have er : N (r + 12) k = rl T (N0 (r + 11) k) := by rw [g12]; exact hr k k0 (by omega)
    have hin := rl_in hw (N0 (r + 11) k)
    rw [er]
    refine qMo_codeBy hw hcN o0 o1 o2 hin.1 hin.2.1 (vMo_laysTable_33 ?_)
    have ecod : cd T (rl T (N0 (r + 11) k)) = cod T (N0 (r + 11) k) := rfl
    rw [ecod]
    have hup := plc_up hw hp k0 (by omega)
    have hpk : pk N0 r m k = N0 (r + 11) k := if_pos (by omega)
    have hcst : ∀ a : Int, N0 (r + 11) k ≤ a → a < pk N0 r m (k + 1) → cod T a = cod T (N0 (r + 11) k) := fun a a0 a1 => by
      unfold cod
      rw [plc_const hw hp k0 (by omega) a0 a1]
    have hnew : (0 < n → ¬ N (r + 7) (124 * t + (n - 1)) = cod T (N0 (r + 11) k)) → Ru (d + 5) kMo_laysTable 62 [xO 9 r, xI t, xAI na c, xI o, xI n, xI k, xI (cod T (N0 (r + 11) k))] [] N Q := by
      intro hne
      refine vMo_laysTable_62 ?_
      rw [z32_id (x := 124 * t) (by omega) (by omega), z32_id (x := 124 * t + n) (by omega) (by omega), z32_id (x := n + 1) (by omega) (by omega), z32_id (x := k + 1) (by omega) (by omega), g11]
      refine ⟨by omega, by omega, by omega, ih (k + 1) (by omega) (by omega) _ (n + 1) _ (by omega) (by omega) (by omega) (fun _ => by omega) (fun j => ?_) (fun j => ?_) ?_ (fun _ => ?_) (fun j j0 j1 => ?_) (fun _ => ?_) (fun j j0 j1 a a0 a1 => ?_) (fun b j hb => ?_)⟩
      · simp (disch := omega) only [up_un]; exact g11 j
      · simp (disch := omega) only [up_un]; exact g12 j
      · simp (disch := omega) only [up_un]; exact gm
      · rw [up_ne (by omega)]
        by_cases e : n = 0
        · rw [e, show 124 * t + 0 = 124 * t by omega, up_same, show k = 0 by omega]; exact p0
        · rw [up_off (by omega)]; exact f0 (by omega)
      · have e6 : ∀ x : Int, up (up N (r + 6) (124 * t + n) (N0 (r + 11) k)) (r + 7) (124 * t + n) (cod T (N0 (r + 11) k)) (r + 6) x = up N (r + 6) (124 * t + n) (N0 (r + 11) k) (r + 6) x := fun x => up_ne (by omega)
        have e7 : ∀ x : Int, ¬ x = 124 * t + n → up (up N (r + 6) (124 * t + n) (N0 (r + 11) k)) (r + 7) (124 * t + n) (cod T (N0 (r + 11) k)) (r + 7) x = N (r + 7) x := fun x hx => by rw [up_off hx, up_ne (by omega)]
        rw [e6, e6, up_off (show ¬ 124 * t + j = 124 * t + n by omega), e7 _ (show ¬ 124 * t + j = 124 * t + n by omega)]
        by_cases e : j + 1 = n
        · rw [e, up_same, up_same]
          have h2 := f2 (by omega)
          rw [hpk, show n - 1 = j by omega] at h2
          have h3 := hne (by omega)
          rw [show n - 1 = j by omega] at h3
          exact ⟨h2, h3⟩
        · rw [up_off (by omega), e7 _ (by omega)]
          exact f1 j j0 (by omega)
      · rw [show n + 1 - 1 = n by omega, up_ne (by omega), up_same]; exact hup
      · have e6 : ∀ x : Int, up (up N (r + 6) (124 * t + n) (N0 (r + 11) k)) (r + 7) (124 * t + n) (cod T (N0 (r + 11) k)) (r + 6) x = up N (r + 6) (124 * t + n) (N0 (r + 11) k) (r + 6) x := fun x => up_ne (by omega)
        rw [e6] at a0
        rw [e6] at a1
        by_cases e : j = n
        · subst e
          rw [up_same] at a0
          rw [if_neg (by omega)] at a1
          rw [up_same]
          exact hcst a a0 a1
        · rw [up_off (by omega)] at a0
          rw [up_off (by omega), up_ne (by omega)]
          refine f3 j j0 (by omega) a a0 ?_
          rw [if_pos (by omega)] at a1
          by_cases e2 : j + 1 = n
          · rw [e2, up_same] at a1
            rw [if_neg (by omega), hpk]; exact a1
          · rw [up_off (by omega)] at a1
            rw [if_pos (by omega)]; exact a1
      · have hb2 := hb
        unfold chT at hb
        rw [up_un (by omega), up_un (by omega)]; exact hf b j hb2
    refine ⟨fun q2 => hnew (fun z => by omega), fun q2 => ?_⟩
    rw [z32_id (x := 124 * t) (by omega) (by omega), z32_id (x := 124 * t + n) (by omega) (by omega), z32_id (x := 124 * t + n - 1) (by omega) (by omega), z32_id (x := k + 1) (by omega) (by omega), show 124 * t + n - 1 = 124 * t + (n - 1) by omega]
    refine ⟨by omega, fun q3 => hnew (fun _ => q3), fun q3 => ?_⟩
    have q3 := Classical.not_not.mp q3
    refine ih (k + 1) (by omega) (by omega) N n _ (by omega) n0 (by omega) (fun _ => by omega) g11 g12 gm f0 f1 (fun z => ?_) (fun j j0 j1 a a0 a1 => ?_) hf
    · have := f2 z
      omega
    · by_cases e : j + 1 < n
      · rw [if_pos e] at a1
        exact f3 j j0 j1 a a0 (by rw [if_pos e]; exact a1)
      · rw [if_neg e] at a1
        have ej : j = n - 1 := by omega
        by_cases ea : a < N0 (r + 11) k
        · exact f3 j j0 j1 a a0 (by rw [if_neg e, hpk]; exact ea)
        · rw [hcst a (by omega) a1, ej]; exact q3.symm

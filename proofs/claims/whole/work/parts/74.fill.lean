/-! THE CLASS FILLS A NODE. -/
theorem cod_hp {T : TB} (hw : tWF T) (a : Int) : cod T a = hk T (hp T a) := by
  have h1 := rl_in hw a
  unfold cod cd hk hp
  by_cases e : rl T a = -1
  · rw [if_pos e, if_pos e, if_pos rfl]
  · have hh := (hw.2.1 (rl T a) (by omega) h1.2.1).2.2.2
    rw [if_neg e, if_neg e, if_neg (by omega)]
theorem hp_in {T : TB} (hw : tWF T) (a : Int) : -1 ≤ hp T a ∧ hp T a < 60 ∧ (0 ≤ hp T a → 0 < tU T (hp T a)) := by
  have h1 := rl_in hw a
  unfold hp
  by_cases e : rl T a = -1
  · rw [if_pos e]; exact ⟨by omega, by omega, fun z => by omega⟩
  · have hh := (hw.2.1 (rl T a) (by omega) h1.2.1).2.2.2
    rw [if_neg e]
    exact ⟨by omega, hh.2, fun _ => tU_pos (by omega) h1.2.1⟩
theorem hp_cod {T : TB} (hw : tWF T) (a b : Int) : hp T a = hp T b ↔ cod T a = cod T b := by
  have ha := hp_in hw a
  have hb := hp_in hw b
  rw [cod_hp hw a, cod_hp hw b]
  constructor
  · intro e; rw [e]
  · intro e
    unfold hk at e
    by_cases ea : hp T a = -1 <;> by_cases eb : hp T b = -1
    · omega
    · rw [if_pos ea, if_neg eb, tK_pos (by omega) hb.2.1 (hb.2.2 (by omega))] at e
      have := hw.2.2.2.1 (hp T b) (by omega) hb.2.1 (hb.2.2 (by omega))
      omega
    · rw [if_neg ea, if_pos eb, tK_pos (by omega) ha.2.1 (ha.2.2 (by omega))] at e
      have := hw.2.2.2.1 (hp T a) (by omega) ha.2.1 (ha.2.2 (by omega))
      omega
    · rw [if_neg ea, if_neg eb, tK_pos (by omega) ha.2.1 (ha.2.2 (by omega)), tK_pos (by omega) hb.2.1 (hb.2.2 (by omega))] at e
      exact hw.2.2.2.2.1 _ _ (by omega) ha.2.1 (by omega) hb.2.1 (ha.2.2 (by omega)) (hb.2.2 (by omega)) e
/-- rows, as spans have them -/
def SR (M : xM) (p : Int) (T : TB) : Prop := isRows T (M p 0) (M (p + 1)) (M (p + 4)) ∧ M p 0 ≤ 121 ∧ (∀ i : Int, 0 ≤ i → i < M p 0 → M (p + 2) i = nxF (M (p + 1)) (M p 0) i - 1) ∧ ∀ i : Int, 0 ≤ i → i < M p 0 → ∀ a : Int, M (p + 1) i ≤ a → a < nxF (M (p + 1)) (M p 0) i → hp T a = M (p + 3) i
theorem SP_SR {M : xM} {p : Int} {T : TB} (hw : tWF T) (h : SP M p T) : SR M p T := by
  obtain ⟨⟨h1, h2, h3, h4, h5, h6, h7, h8⟩, hm, -⟩ := h
  have m1 := h3.2.2 (by decide)
  have h5 := h5 (by omega)
  have hl : ∀ i : Int, 0 ≤ i → i < M p 0 → M (p + 2) i = nxF (M (p + 1)) (M p 0) i - 1 := by
    intro i i0 i1
    by_cases e : i + 1 < M p 0
    · rw [nxF_in e, (h6 i i0 e).1]; omega
    · rw [nxF_end e, show i = M p 0 - 1 by omega, h5.2]
  have h7' : ∀ i : Int, 0 ≤ i → i < M p 0 → ∀ a : Int, M (p + 1) i ≤ a → a < nxF (M (p + 1)) (M p 0) i → hp T a = M (p + 3) i := fun i i0 i1 a a0 a1 => h7 i i0 i1 a a0 (by rw [hl i i0 i1]; omega)
  have hup : ∀ i : Int, 0 ≤ i → i < M p 0 → M (p + 1) i < nxF (M (p + 1)) (M p 0) i := fun i i0 i1 => by have := h4 i i0 i1; have := hl i i0 i1; omega
  refine ⟨⟨m1, h5.1, hup, fun i i0 i1 a a0 a1 => ?_, fun i i0 i1 hc => ?_⟩, hm, hl, h7'⟩
  · rw [cod_hp hw, h7' i i0 i1 a a0 a1]; exact (h8 i i0 i1).symm
  · have e1 := h7' i i0 (by omega) _ (Int.le_refl _) (hup i i0 (by omega))
    have e2 := h7' (i + 1) (by omega) i1 _ (Int.le_refl _) (hup (i + 1) (by omega) i1)
    have g1 := h8 i i0 (by omega)
    have g2 := h8 (i + 1) (by omega) i1
    rw [← e1, ← cod_hp hw] at g1
    rw [← e2, ← cod_hp hw] at g2
    rw [g1, g2] at hc
    exact (h6 i i0 i1).2 (by rw [← e1, ← e2]; exact (hp_cod hw _ _).mpr hc)
theorem SR_fr {M N : xM} {p : Int} {T : TB} (h : SR M p T) (e : ∀ b j : Int, p ≤ b → b ≤ p + 4 → N b j = M b j) : SR N p T := by
  have e1 : N (p + 1) = M (p + 1) := funext fun j => e _ _ (by omega) (by omega)
  have e4 : N (p + 4) = M (p + 4) := funext fun j => e _ _ (by omega) (by omega)
  unfold SR
  rw [e1, e4, e p 0 (by omega) (by omega)]
  simp only [e (p + 2) _ (by omega) (by omega), e (p + 3) _ (by omega) (by omega)]
  exact h
theorem qSpans_spanWith {d : Nat} {M : xM} {Q : xQ} {T : TB} {p a s : Int} (hS : SR M p T) (a1 : a < 4294967296) (s0 : 0 ≤ s) (s1 : s < M p 0) (hs : M (p + 1) s ≤ a) (h : ∀ i : Int, s ≤ i → i < M p 0 → M (p + 1) i ≤ a → a < nxF (M (p + 1)) (M p 0) i → Q (xI i) M) : Ru d kSpans_spanWith 0 [xO 5 p, xL a, xU, xI s, xU] [] M Q := by
  have hm := hS.2.1
  refine vSpans_spanWith_0 ⟨fun _ => ?_, fun z => absurd s0 z⟩
  refine loop_up (M p 0 - 1) (P := fun i => s ≤ i → M (p + 1) i ≤ a → Ru d kSpans_spanWith 11 [xO 5 p, xL a, xU, xI s, xI i] [] M Q) (fun i hi ih i0 hia => ?_) s (by omega) (Int.le_refl _) hs
  refine vSpans_spanWith_11 ?_
  have em : mn i 120 = i := by unfold mn; rw [if_neg (by omega)]
  rw [z32_id (x := M p 0 - 1) (by omega) (by omega), em, z32_id (x := i + 1) (by omega) (by omega), hS.2.2.1 i (by omega) (by omega)]
  refine ⟨fun q => h i i0 (by omega) hia (by rw [nxF_end (by omega)]; exact a1), fun q => ⟨fun q2 => by omega, fun q2 => ⟨by omega, fun q3 => h i i0 (by omega) hia (by omega), fun q3 => ih (i + 1) (by omega) (by omega) (by omega) ?_⟩⟩⟩
  rw [nxF_in (by omega)] at q3
  omega
/-- the last hop of the slots below q; how many of them lead on -/
noncomputable def nH (T : TB) (v z : Int) : Nat → Int
  | 0 => -2
  | q + 1 => if lfb T (v + q * z) z = true then hp T (v + q * z) else nH T v z q
noncomputable def nK (T : TB) (v z : Int) : Nat → Int
  | 0 => 0
  | q + 1 => if lfb T (v + q * z) z = true then nK T v z q else nK T v z q + 1
theorem nH_X {T : TB} (hw : tWF T) (v z : Int) : ∀ q : Nat, (nH T v z q = -2 ∧ nX T v z q = -2) ∨ ∃ a : Int, nH T v z q = hp T a ∧ nX T v z q = cod T a
  | 0 => Or.inl ⟨rfl, rfl⟩
  | q + 1 => by
    have ih := nH_X hw v z q
    have e1 : nH T v z (q + 1) = if lfb T (v + q * z) z = true then hp T (v + q * z) else nH T v z q := rfl
    have e2 : nX T v z (q + 1) = if lfb T (v + q * z) z = true then cod T (v + q * z) else nX T v z q := rfl
    rw [e1, e2]
    by_cases e : lfb T (v + q * z) z = true
    · rw [if_pos e, if_pos e]; exact Or.inr ⟨_, rfl, rfl⟩
    · rw [if_neg e, if_neg e]; exact ih
theorem nH_eq {T : TB} (hw : tWF T) (v z : Int) (q : Nat) (b : Int) : hp T b = nH T v z q ↔ cod T b = nX T v z q := by
  rcases nH_X hw v z q with ⟨e1, e2⟩ | ⟨a, e1, e2⟩
  · rw [e1, e2]
    have := hp_in hw b
    have := cod_ge hw b
    constructor <;> intro h <;> omega
  · rw [e1, e2]; exact hp_cod hw b a
theorem nK_b (T : TB) (v z : Int) : ∀ q : Nat, 0 ≤ nK T v z q ∧ nK T v z q ≤ q
  | 0 => ⟨Int.le_refl _, Int.le_refl _⟩
  | q + 1 => by
    have := nK_b T v z q
    have e : nK T v z (q + 1) = if lfb T (v + q * z) z = true then nK T v z q else nK T v z q + 1 := rfl
    rw [e]
    split <;> omega
theorem nK_mono {T : TB} {v z : Int} {j k : Nat} (h : j ≤ k) : nK T v z j ≤ nK T v z k := by
  induction k with
  | zero => rw [show j = 0 by omega]; exact Int.le_refl _
  | succ k ih =>
    by_cases e : j = k + 1
    · rw [e]; exact Int.le_refl _
    · have e2 : nK T v z (k + 1) = if lfb T (v + k * z) z = true then nK T v z k else nK T v z k + 1 := rfl
      have := ih (by omega)
      rw [e2]
      split <;> omega
section NSucc
variable {T : TB} {v z : Int} {q : Nat}
theorem nC_y (h : lfb T (v + q * z) z = true) : nC T v z (q + 1) = nC T v z q := by
  show (if lfb T (v + q * z) z = true then _ else _) = _
  rw [if_pos h]
theorem nC_n (h : lfb T (v + q * z) z = false) : nC T v z (q + 1) = lor (nC T v z q) (lshl 1 q) := by
  show (if lfb T (v + q * z) z = true then _ else _) = _
  rw [h]; rfl
theorem nK_y (h : lfb T (v + q * z) z = true) : nK T v z (q + 1) = nK T v z q := by
  show (if lfb T (v + q * z) z = true then _ else _) = _
  rw [if_pos h]
theorem nK_n (h : lfb T (v + q * z) z = false) : nK T v z (q + 1) = nK T v z q + 1 := by
  show (if lfb T (v + q * z) z = true then _ else _) = _
  rw [h]; rfl
theorem nX_y (h : lfb T (v + q * z) z = true) : nX T v z (q + 1) = cod T (v + q * z) := by
  show (if lfb T (v + q * z) z = true then _ else _) = _
  rw [if_pos h]
theorem nX_n (h : lfb T (v + q * z) z = false) : nX T v z (q + 1) = nX T v z q := by
  show (if lfb T (v + q * z) z = true then _ else _) = _
  rw [h]; rfl
theorem nH_y (h : lfb T (v + q * z) z = true) : nH T v z (q + 1) = hp T (v + q * z) := by
  show (if lfb T (v + q * z) z = true then _ else _) = _
  rw [if_pos h]
theorem nH_n (h : lfb T (v + q * z) z = false) : nH T v z (q + 1) = nH T v z q := by
  show (if lfb T (v + q * z) z = true then _ else _) = _
  rw [h]; rfl
theorem nR_y (h : nS T v z q = true) : nR T v z (q + 1) = lor (nR T v z q) (lshl 1 q) := by
  show (if nS T v z q = true then _ else _) = _
  rw [if_pos h]
theorem nR_n (h : nS T v z q = false) : nR T v z (q + 1) = nR T v z q := by
  show (if nS T v z q = true then _ else _) = _
  rw [h]; rfl
theorem nN_y (h : nS T v z q = true) : nN T v z (q + 1) = nN T v z q + 1 := by
  show (if nS T v z q = true then _ else _) = _
  rw [if_pos h]
theorem nN_n (h : nS T v z q = false) : nN T v z (q + 1) = nN T v z q := by
  show (if nS T v z q = true then _ else _) = _
  rw [h]; rfl
theorem nS_f (h : lfb T (v + q * z) z = false) : nS T v z q = false := by
  unfold nS
  rw [h, Bool.false_and]
theorem nS_e (h : cod T (v + q * z) = nX T v z q) : nS T v z q = false := by
  unfold nS
  rw [decide_eq_false (by exact fun w => w h), Bool.and_false]
theorem nS_t (h : lfb T (v + q * z) z = true) (h2 : ¬ cod T (v + q * z) = nX T v z q) : nS T v z q = true := by
  unfold nS
  rw [h, decide_eq_true h2]
  rfl
end NSucc
/-- slots of the way that slot q has add nothing -/
theorem skip {T : TB} {v z : Int} {q : Nat} : ∀ k : Nat, (∀ j : Nat, q ≤ j → j < q + 1 + k → lfb T (v + j * z) z = true ∧ cod T (v + j * z) = cod T (v + q * z) ∧ hp T (v + j * z) = hp T (v + q * z)) → nC T v z (q + 1 + k) = nC T v z q ∧ nR T v z (q + 1 + k) = nR T v z (q + 1) ∧ nN T v z (q + 1 + k) = nN T v z (q + 1) ∧ nX T v z (q + 1 + k) = cod T (v + q * z) ∧ nH T v z (q + 1 + k) = hp T (v + q * z) ∧ nK T v z (q + 1 + k) = nK T v z q ∧ ∀ j : Nat, q < j → j < q + 1 + k → nS T v z j = false
  | 0, h => by
    have h1 := (h q (Nat.le_refl _) (by omega)).1
    exact ⟨nC_y h1, rfl, rfl, nX_y h1, nH_y h1, nK_y h1, fun j j0 j1 => by omega⟩
  | k + 1, h => by
    obtain ⟨a1, a2, a3, a4, a5, a6, a7⟩ := skip k (fun j j0 j1 => h j j0 (by omega))
    obtain ⟨b1, b2, b3⟩ := h (q + 1 + k) (by omega) (by omega)
    have hns : nS T v z (q + 1 + k) = false := nS_e (by rw [a4]; exact b2)
    have e : q + 1 + (k + 1) = (q + 1 + k) + 1 := by omega
    rw [e]
    refine ⟨(nC_y b1).trans a1, (nR_n hns).trans a2, (nN_n hns).trans a3, (nX_y b1).trans b2, (nH_y b1).trans b3, (nK_y b1).trans a6, fun j j0 j1 => ?_⟩
    by_cases e : j = q + 1 + k
    · rw [e]; exact hns
    · exact a7 j j0 (by omega)
theorem lshl_wd {q b : Int} (b0 : 0 ≤ b) (b1 : b ≤ 32) (h0 : 0 ≤ q * wd b) (h1 : q * wd b < 9223372036854775808) : lshl q (z32 (32 - b)) = q * wd b := by
  rw [z32_id (by omega) (by omega)]
  obtain ⟨n, hn⟩ : ∃ n : Nat, 32 - b = (n : Int) := nat_of (by omega)
  rw [hn, lshl_eq (by omega)]
  have e : (2 : Int) ^ n = wd b := by unfold wd; rw [hn, Int.toNat_natCast]
  rw [e, z64_id (by omega) h1]
theorem lshr_wd {x b : Int} (b0 : 0 ≤ b) (b1 : b ≤ 32) (hx : i64 x) : lshr x (z32 (32 - b)) = x / wd b := by
  rw [z32_id (by omega) (by omega)]
  obtain ⟨n, hn⟩ : ∃ n : Nat, 32 - b = (n : Int) := nat_of (by omega)
  rw [hn, lshr_eq hx (by omega)]
  have e : (2 : Int) ^ n = wd b := by unfold wd; rw [hn, Int.toNat_natCast]
  rw [e]
theorem qNodes_append {d : Nat} {M : xM} {Q : xQ} {p v l f s c : Int} (e0 : M p 0 = c) (c0 : 0 ≤ c) (c1 : c < 901) (h : ∀ N : xM, N p 0 = c + 1 → N (p + 1) c = v → N (p + 2) c = l → N (p + 5) c = f → N (p + 11) c = s → N (p + 3) c = 0 → N (p + 4) c = 0 → (∀ b j : Int, ¬ (b = p ∧ j = 0) → ¬ ((b = p + 1 ∨ b = p + 2 ∨ b = p + 3 ∨ b = p + 4 ∨ b = p + 5 ∨ b = p + 11) ∧ j = c) → N b j = M b j) → Q xU N) : Ru d kNodes_append 0 [xO 3 p, xL v, xU, xI l, xI f, xI s] [] M Q := by
  refine vNodes_append_0 ?_
  simp (disch := omega) only [up_un, e0]
  rw [z32_id (by omega) (by omega)]
  refine ⟨fun _ => ⟨by omega, by omega, by omega, by omega, by omega, by omega, h _ up_same ?_ ?_ ?_ ?_ ?_ ?_ (fun b j h1 h2 => ?_)⟩, fun z => absurd c1 z⟩
  · simp (disch := omega) only [up_un, up_at]
  · simp (disch := omega) only [up_un, up_at]
  · simp (disch := omega) only [up_un, up_at]
  · simp (disch := omega) only [up_un, up_at]
  · simp (disch := omega) only [up_un, up_at]
  · simp (disch := omega) only [up_un, up_at]
  · simp (disch := omega) only [up_un]
theorem qNodes_store {d : Nat} {M : xM} {Q : xQ} {p g k s : Int} (e : M p 16 = s) (s0 : 0 ≤ s) (s1 : s < 2837) (h : ∀ N : xM, N p 16 = s + 1 → N (p + 9) s = g → N (p + 10) s = k → (∀ b j : Int, ¬ (b = p ∧ j = 16) → ¬ ((b = p + 9 ∨ b = p + 10) ∧ j = s) → N b j = M b j) → Q xU N) : Ru d kNodes_store 0 [xO 3 p, xI g, xI k] [] M Q := by
  refine vNodes_store_0 ?_
  simp (disch := omega) only [up_un, e]
  rw [z32_id (by omega) (by omega)]
  refine ⟨fun z => by omega, fun _ => ⟨by omega, by omega, h _ up_same ?_ ?_ (fun b j h1 h2 => ?_)⟩⟩
  · simp (disch := omega) only [up_un, up_at]
  · simp (disch := omega) only [up_un, up_at]
  · simp (disch := omega) only [up_un]
/-- a node that the class has filled -/
def FN (M : xM) (p : Int) (T : TB) (n l v c s : Int) : Prop := M (p + 3) n = nC T v (wd (tB (tS T) (l + 1).toNat)) (2 ^ (tS T l).toNat) ∧ M (p + 4) n = nR T v (wd (tB (tS T) (l + 1).toNat)) (2 ^ (tS T l).toNat) ∧ M (p + 6) n = c ∧ M (p + 8) n = s ∧ M (p + 8) (n + 1) = s + nN T v (wd (tB (tS T) (l + 1).toNat)) (2 ^ (tS T l).toNat) ∧ (∀ q : Nat, q < 2 ^ (tS T l).toNat → nS T v (wd (tB (tS T) (l + 1).toNat)) q = true → M (p + 9) (s + nN T v (wd (tB (tS T) (l + 1).toNat)) q) = hp T (v + q * wd (tB (tS T) (l + 1).toNat)) ∧ M (p + 10) (s + nN T v (wd (tB (tS T) (l + 1).toNat)) q) = cod T (v + q * wd (tB (tS T) (l + 1).toNat))) ∧ ∀ q : Nat, q < 2 ^ (tS T l).toNat → lfb T (v + q * wd (tB (tS T) (l + 1).toNat)) (wd (tB (tS T) (l + 1).toNat)) = false → M (p + 1) (c + nK T v (wd (tB (tS T) (l + 1).toNat)) q) = v + q * wd (tB (tS T) (l + 1).toNat) ∧ M (p + 2) (c + nK T v (wd (tB (tS T) (l + 1).toNat)) q) = l + 1 ∧ M (p + 5) (c + nK T v (wd (tB (tS T) (l + 1).toNat)) q) = n
/-- while a node is being filled: q slots are done -/
def FI (M N : xM) (p p2 : Int) (T : TB) (n l v z W c s e0 sp : Int) (q : Nat) : Prop :=
  (N (p + 3) n = nC T v z q ∧ N (p + 4) n = nR T v z q ∧ N p 16 = s + nN T v z q ∧ N p 0 = c + nK T v z q ∧ N (p + 6) n = c ∧ N (p + 8) n = s) ∧
  (∀ k : Nat, k < q → nS T v z k = true → N (p + 9) (s + nN T v z k) = hp T (v + k * z) ∧ N (p + 10) (s + nN T v z k) = cod T (v + k * z)) ∧
  (∀ k : Nat, k < q → lfb T (v + k * z) z = false → N (p + 1) (c + nK T v z k) = v + k * z ∧ N (p + 2) (c + nK T v z k) = l + 1 ∧ N (p + 5) (c + nK T v z k) = n) ∧
  (∀ j : Int, c ≤ j → j < N p 0 → N (p + 3) j = 0 ∧ N (p + 4) j = 0 ∧ (0 ≤ N (p + 11) j ∧ N (p + 11) j < M p2 0) ∧ M (p2 + 1) (N (p + 11) j) ≤ N (p + 1) j ∧ N (p + 1) j < nxF (M (p2 + 1)) (M p2 0) (N (p + 11) j)) ∧
  (e0 ≤ sp ∧ sp < M p2 0 ∧ M (p2 + 1) sp < v + W) ∧ (nN T v z q = 0 ∨ ∃ sb : Int, e0 ≤ sb ∧ sb ≤ sp ∧ M (p2 + 3) sb = nH T v z q ∧ nN T v z q ≤ 1 + (sb - e0)) ∧
  ∀ b j : Int, ¬ (b = p ∧ (j = 0 ∨ j = 16)) → ¬ ((b = p + 1 ∨ b = p + 2 ∨ b = p + 5 ∨ b = p + 11) ∧ c ≤ j) → ¬ ((b = p + 3 ∨ b = p + 4) ∧ (j = n ∨ c ≤ j)) → ¬ (b = p + 6 ∧ j = n) → ¬ (b = p + 8 ∧ (j = n ∨ j = n + 1)) → ¬ ((b = p + 9 ∨ b = p + 10) ∧ s ≤ j) → N b j = M b j
theorem FI_skip {M N : xM} {p p2 : Int} {T : TB} {n l v z W c s e0 sp : Int} {q k : Nat} (h : FI M N p p2 T n l v z W c s e0 sp (q + 1)) (hk : ∀ j : Nat, q ≤ j → j < q + 1 + k → lfb T (v + j * z) z = true ∧ cod T (v + j * z) = cod T (v + q * z) ∧ hp T (v + j * z) = hp T (v + q * z)) : FI M N p p2 T n l v z W c s e0 sp (q + 1 + k) := by
  obtain ⟨a1, a2, a3, a4, a5, a6, a7⟩ := skip k hk
  obtain ⟨b1, b2, b3, b4, b5, b6⟩ := skip 0 (fun j j0 j1 => hk j j0 (by omega))
  obtain ⟨⟨h1, h2, h3, h4, h5, h6⟩, g1, g2, g3, g4, g5, g6⟩ := h
  refine ⟨⟨by rw [a1, ← b1]; exact h1, by rw [a2]; exact h2, by rw [a3]; exact h3, by rw [a6, ← b6.1]; exact h4, h5, h6⟩, fun j j1 hj => ?_, fun j j1 hj => ?_, g3, g4, ?_, g6⟩
  · rcases (show j < q + 1 ∨ q < j by omega) with e | e
    · exact g1 j e hj
    · rw [a7 j e j1] at hj; cases hj
  · rcases (show j < q + 1 ∨ q < j by omega) with e | e
    · exact g2 j e hj
    · rw [(hk j (by omega) j1).1] at hj; cases hj
  · rw [a3, a5, ← b5]; exact g5
theorem FI_sp {M N : xM} {p p2 : Int} {T : TB} {n l v z W c s e0 sp : Int} {q : Nat} (hap : p + 14 < p2 ∨ p2 + 7 < p) (nc : n < c) (h : FI M N p p2 T n l v z W c s e0 sp q) : (∀ b j : Int, p2 ≤ b → b ≤ p2 + 7 → N b j = M b j) ∧ N (p + 1) n = M (p + 1) n := by
  have g6 := h.2.2.2.2.2.2
  exact ⟨fun b j b0 b1 => g6 b j (by omega) (by omega) (by omega) (by omega) (by omega) (by omega), g6 _ _ (by omega) (by omega) (by omega) (by omega) (by omega) (by omega)⟩
theorem FI_keep {M N : xM} {p p2 : Int} {T : TB} {n l v z W c s e0 sp i : Int} {q : Nat} (h : FI M N p p2 T n l v z W c s e0 sp q) (hlb : lfb T (v + q * z) z = true) (hns : nS T v z q = false) (hh : hp T (v + q * z) = nH T v z q) (i0 : sp ≤ i) (i1 : i < M p2 0) (iF : M (p2 + 1) i < v + W) : FI M N p p2 T n l v z W c s e0 i (q + 1) := by
  obtain ⟨⟨h1, h2, h3, h4, h5, h6⟩, g1, g2, g3, g4, g5, g6⟩ := h
  refine ⟨⟨by rw [nC_y hlb]; exact h1, by rw [nR_n hns]; exact h2, by rw [nN_n hns]; exact h3, by rw [nK_y hlb]; exact h4, h5, h6⟩, fun k k1 hk => ?_, fun k k1 hk => ?_, g3, ⟨by omega, i1, iF⟩, ?_, g6⟩
  · rcases (show k < q ∨ k = q by omega) with e | e
    · exact g1 k e hk
    · rw [e, hns] at hk; cases hk
  · rcases (show k < q ∨ k = q by omega) with e | e
    · exact g2 k e hk
    · rw [e, hlb] at hk; cases hk
  · rw [nN_n hns, nH_y hlb, hh]
    rcases g5 with g5 | ⟨sb, b0, b1, b2, b3⟩
    · exact Or.inl g5
    · exact Or.inr ⟨sb, b0, by omega, b2, b3⟩
theorem FI_nb {M N : xM} {p p2 : Int} {T : TB} {n l v z W c s e0 sp i : Int} {q : Nat} (h : FI M N p p2 T n l v z W c s e0 sp q) (hh : ¬ M (p2 + 3) i = nH T v z q) (i0 : sp ≤ i) : nN T v z q + 1 ≤ 1 + (i - e0) := by
  obtain ⟨-, -, -, -, g4, g5, -⟩ := h
  rcases g5 with g5 | ⟨sb, b0, b1, b2, b3⟩
  · omega
  · have : ¬ sb = i := fun e => by
      rw [e] at b2
      exact hh b2
    omega
theorem FI_store {M N N1 : xM} {p p2 : Int} {T : TB} {n l v z W c s e0 sp i : Int} {q : Nat} (n0 : 0 ≤ n) (nc : n < c) (h : FI M N p p2 T n l v z W c s e0 sp q) (hlb : lfb T (v + q * z) z = true) (hns : nS T v z q = true) (hhi : M (p2 + 3) i = hp T (v + q * z)) (hh : ¬ M (p2 + 3) i = nH T v z q) (i0 : sp ≤ i) (i1 : i < M p2 0) (iF : M (p2 + 1) i < v + W) (k1 : N1 p 16 = s + nN T v z q + 1) (k2 : N1 (p + 9) (s + nN T v z q) = hp T (v + q * z)) (k3 : N1 (p + 10) (s + nN T v z q) = cod T (v + q * z)) (hf1 : ∀ b j : Int, ¬ (b = p ∧ j = 16) → ¬ ((b = p + 9 ∨ b = p + 10) ∧ j = s + nN T v z q) → N1 b j = up N (p + 4) n (lor (N (p + 4) n) (lshl 1 q)) b j) : FI M N1 p p2 T n l v z W c s e0 i (q + 1) := by
  have hb := FI_nb h hh i0
  have nb := nN_b T v z q
  obtain ⟨⟨h1, h2, h3, h4, h5, h6⟩, g1, g2, g3, g4, g5, g6⟩ := h
  refine ⟨⟨?_, ?_, ?_, ?_, ?_, ?_⟩, fun k kq hk => ?_, fun k kq hk => ?_, fun j j0 j1 => ?_, ⟨by omega, i1, iF⟩, ?_, fun b j y1 y2 y3 y4 y5 y6 => ?_⟩
  · rw [hf1 _ _ (by omega) (by omega), up_ne (by omega), nC_y hlb]; exact h1
  · rw [hf1 _ _ (by omega) (by omega), up_same, nR_y hns, h2]
  · rw [k1, nN_y hns]; omega
  · rw [hf1 _ _ (by omega) (by omega), up_ne (by omega), nK_y hlb]; exact h4
  · rw [hf1 _ _ (by omega) (by omega), up_ne (by omega)]; exact h5
  · rw [hf1 _ _ (by omega) (by omega), up_ne (by omega)]; exact h6
  · rcases (show k < q ∨ k = q by omega) with e | e
    · have h9 := nN_mono (T := T) (v := v) (z := z) (j := k + 1) (k := q) (by omega)
      rw [nN_y hk] at h9
      rw [hf1 _ _ (by omega) (by omega), hf1 _ _ (by omega) (by omega), up_ne (by omega), up_ne (by omega)]
      exact g1 k e hk
    · rw [e]; exact ⟨k2, k3⟩
  · rcases (show k < q ∨ k = q by omega) with e | e
    · rw [hf1 _ _ (by omega) (by omega), hf1 _ _ (by omega) (by omega), hf1 _ _ (by omega) (by omega), up_ne (by omega), up_ne (by omega), up_ne (by omega)]
      exact g2 k e hk
    · rw [e, hlb] at hk; cases hk
  · rw [hf1 _ _ (by omega) (by omega), up_ne (by omega)] at j1
    rw [hf1 (p + 3) j (by omega) (by omega), hf1 (p + 4) j (by omega) (by omega), hf1 (p + 11) j (by omega) (by omega), hf1 (p + 1) j (by omega) (by omega), up_ne (by omega), up_off (by omega), up_ne (by omega), up_ne (by omega)]
    exact g3 j j0 j1
  · refine Or.inr ⟨i, by omega, Int.le_refl _, ?_, ?_⟩
    · rw [nH_y hlb]; exact hhi
    · rw [nN_y hns]; exact hb
  · rw [hf1 _ _ (by omega) (by omega), up_un (by omega)]; exact g6 b j y1 y2 y3 y4 y5 y6
theorem FI_child {M N N1 : xM} {p p2 : Int} {T : TB} {n l v z W c s e0 sp i : Int} {q : Nat} (n0 : 0 ≤ n) (nc : n < c) (h : FI M N p p2 T n l v z W c s e0 sp q) (hlb : lfb T (v + q * z) z = false) (e00 : 0 ≤ e0) (i0 : sp ≤ i) (i1 : i < M p2 0) (iF : M (p2 + 1) i < v + W) (f0 : M (p2 + 1) i ≤ v + q * z) (f1 : v + q * z < nxF (M (p2 + 1)) (M p2 0) i) (k1 : N1 p 0 = c + nK T v z q + 1) (k2 : N1 (p + 1) (c + nK T v z q) = v + q * z) (k3 : N1 (p + 2) (c + nK T v z q) = l + 1) (k4 : N1 (p + 5) (c + nK T v z q) = n) (k5 : N1 (p + 11) (c + nK T v z q) = i) (k6 : N1 (p + 3) (c + nK T v z q) = 0) (k7 : N1 (p + 4) (c + nK T v z q) = 0) (hf1 : ∀ b j : Int, ¬ (b = p ∧ j = 0) → ¬ ((b = p + 1 ∨ b = p + 2 ∨ b = p + 3 ∨ b = p + 4 ∨ b = p + 5 ∨ b = p + 11) ∧ j = c + nK T v z q) → N1 b j = up N (p + 3) n (lor (N (p + 3) n) (lshl 1 q)) b j) : FI M N1 p p2 T n l v z W c s e0 i (q + 1) := by
  have kb := nK_b T v z q
  have hns := nS_f hlb
  obtain ⟨⟨h1, h2, h3, h4, h5, h6⟩, g1, g2, g3, g4, g5, g6⟩ := h
  refine ⟨⟨?_, ?_, ?_, ?_, ?_, ?_⟩, fun k kq hk => ?_, fun k kq hk => ?_, fun j j0 j1 => ?_, ⟨by omega, i1, iF⟩, ?_, fun b j y1 y2 y3 y4 y5 y6 => ?_⟩
  · rw [hf1 _ _ (by omega) (by omega), up_same, nC_n hlb, h1]
  · rw [hf1 _ _ (by omega) (by omega), up_ne (by omega), nR_n hns]; exact h2
  · rw [hf1 _ _ (by omega) (by omega), up_ne (by omega), nN_n hns]; exact h3
  · rw [k1, nK_n hlb]; omega
  · rw [hf1 _ _ (by omega) (by omega), up_ne (by omega)]; exact h5
  · rw [hf1 _ _ (by omega) (by omega), up_ne (by omega)]; exact h6
  · rcases (show k < q ∨ k = q by omega) with e | e
    · rw [hf1 _ _ (by omega) (by omega), hf1 _ _ (by omega) (by omega), up_ne (by omega), up_ne (by omega)]
      exact g1 k e hk
    · rw [e, hns] at hk; cases hk
  · rcases (show k < q ∨ k = q by omega) with e | e
    · have h9 := nK_mono (T := T) (v := v) (z := z) (j := k + 1) (k := q) (by omega)
      rw [nK_n hk] at h9
      rw [hf1 _ _ (by omega) (by omega), hf1 _ _ (by omega) (by omega), hf1 _ _ (by omega) (by omega), up_ne (by omega), up_ne (by omega), up_ne (by omega)]
      exact g2 k e hk
    · rw [e]; exact ⟨k2, k3, k4⟩
  · rw [k1] at j1
    rcases (show j < c + nK T v z q ∨ j = c + nK T v z q by omega) with e | e
    · rw [hf1 (p + 3) j (by omega) (by omega), hf1 (p + 4) j (by omega) (by omega), hf1 (p + 11) j (by omega) (by omega), hf1 (p + 1) j (by omega) (by omega), up_off (by omega), up_ne (by omega), up_ne (by omega), up_ne (by omega)]
      exact g3 j j0 (by rw [h4]; exact e)
    · rw [e, k2, k5, k6, k7]
      exact ⟨rfl, rfl, ⟨by omega, i1⟩, f0, f1⟩
  · rw [nN_n hns, nH_n hlb]
    rcases g5 with g5 | ⟨sb, b0, b1, b2, b3⟩
    · exact Or.inl g5
    · exact Or.inr ⟨sb, b0, by omega, b2, b3⟩
  · rw [hf1 _ _ (by omega) (by omega), up_un (by omega)]; exact g6 b j y1 y2 y3 y4 y5 y6
theorem qNodes_fill {d : Nat} {M : xM} {Q : xQ} {T : TB} {p p2 n l v c s e0 : Int} (hw : tWF T) (hS : SR M p2 T) (hap : p + 14 < p2 ∨ p2 + 7 < p) (hv : ndOk T l v) (n0 : 0 ≤ n) (nc : n < c) (ec : M p 0 = c) (es : M p 16 = s) (s0 : 0 ≤ s) (ev : M (p + 1) n = v) (e3 : M (p + 3) n = 0) (e4 : M (p + 4) n = 0) (e14 : M (p + 14) l = tS T l) (e13 : M (p + 13) (l + 1) = tB (tS T) (l + 1).toNat) (e11 : M (p + 11) n = e0) (e00 : 0 ≤ e0) (e01 : e0 < M p2 0) (e02 : M (p2 + 1) e0 ≤ v) (hcb : c + nK T v (wd (tB (tS T) (l + 1).toNat)) (2 ^ (tS T l).toNat) ≤ 901) (hsb : s + 1 + (120 - e0) ≤ 2837)
    (h : ∀ (N : xM) (e : Int), FN N p T n l v c s → N p 0 = c + nK T v (wd (tB (tS T) (l + 1).toNat)) (2 ^ (tS T l).toNat) → N p 16 = s + nN T v (wd (tB (tS T) (l + 1).toNat)) (2 ^ (tS T l).toNat) → (e0 ≤ e ∧ e < M p2 0 ∧ M (p2 + 1) e < v + wd (tB (tS T) l.toNat)) → N p 16 ≤ s + 1 + (e - e0) → (∀ j : Int, c ≤ j → j < N p 0 → N (p + 3) j = 0 ∧ N (p + 4) j = 0 ∧ (0 ≤ N (p + 11) j ∧ N (p + 11) j < M p2 0) ∧ M (p2 + 1) (N (p + 11) j) ≤ N (p + 1) j ∧ N (p + 1) j < nxF (M (p2 + 1)) (M p2 0) (N (p + 11) j)) → (∀ b j : Int, ¬ (b = p ∧ (j = 0 ∨ j = 16)) → ¬ ((b = p + 1 ∨ b = p + 2 ∨ b = p + 5 ∨ b = p + 11) ∧ c ≤ j) → ¬ ((b = p + 3 ∨ b = p + 4) ∧ (j = n ∨ c ≤ j)) → ¬ (b = p + 6 ∧ j = n) → ¬ (b = p + 8 ∧ (j = n ∨ j = n + 1)) → ¬ ((b = p + 9 ∨ b = p + 10) ∧ s ≤ j) → N b j = M b j) → Q xU N) : Ru (d + 2) kNodes_fill 0 [xO 3 p, xI n, xI l, xO 5 p2, xU, xU, xU, xU, xU, xU, xU, xU, xU, xU] [] M Q := by
  obtain ⟨hl, v0, v1⟩ := id hv
  have hZ := hw.2.2.2.2.2.1
  have hs := hw.2.2.2.2.2.2.1 l hl.1 hl.2
  have hp26 := p26 hs.1 hs.2
  obtain ⟨hwz, hq⟩ := nd_sl hw hv
  have wp := wd_pos (tB (tS T) (l + 1).toNat)
  have hb := tB_hi hw (l := l + 1) (by omega) (by omega)
  have wl := wd_le (n := tB (tS T) (l + 1).toNat) (by omega)
  have hn901 : n < 901 := by
    have := nK_b T v (wd (tB (tS T) (l + 1).toNat)) (2 ^ (tS T l).toNat)
    omega
  refine vNodes_fill_0 ?_
  rw [z32_id (x := l + 1) (by omega) (by omega), e14, e13, e11, ec, up_un (by omega), es, ishl_p (by omega) (by omega)]
  refine ⟨by omega, by omega, by omega, by omega, by omega, ?_⟩
  generalize hbd : tB (tS T) (l + 1).toNat = bb at *
  generalize hz : wd bb = z at *
  generalize hP : (2 : Nat) ^ (tS T l).toNat = P at *
  have hPi : (2 : Int) ^ (tS T l).toNat = (P : Int) := by rw [← hP]; exact p2i _
  rw [hPi] at hp26 hq hwz ⊢
  have m121 := hS.2.1
  have spR := hS.1
  -- the end
  have fin : ∀ (N : xM) (sp b st q : Int) (w10 w12 : xV), FI M N p p2 T n l v z (wd (tB (tS T) l.toNat)) c s e0 sp P → (P : Int) ≤ q → Ru (d + 2) kNodes_fill 61 [xO 3 p, xI n, xI l, xO 5 p2, xI P, xI (z32 (32 - bb)), xI sp, xI b, xI st, xI q, w10, xU, w12, xU] [] N Q := by
    intro N sp b st q w10 w12 hI hqP
    obtain ⟨⟨h1, h2, h3, h4, h5, h6⟩, g1, g2, g3, g4, g5, g6⟩ := hI
    have nb := nN_b T v z P
    have kb := nK_b T v z P
    refine vNodes_fill_61 ⟨fun _ => ?_, fun w => absurd hqP w⟩
    rw [z32_id (by omega) (by omega)]
    refine ⟨by omega, h _ sp ⟨?_, ?_, ?_, ?_, ?_, fun k k1 hk => ?_, fun k k1 hk => ?_⟩ ?_ ?_ g4 ?_ (fun j j0 j1 => ?_) (fun b j y1 y2 y3 y4 y5 y6 => ?_)⟩
    · rw [hbd, hz, hP, up_ne (by omega)]; exact h1
    · rw [hbd, hz, hP, up_ne (by omega)]; exact h2
    · rw [up_ne (by omega)]; exact h5
    · rw [up_off (by omega)]; exact h6
    · rw [hbd, hz, hP, up_same]; exact h3
    · rw [hP] at k1; rw [hbd, hz] at hk ⊢; rw [up_ne (by omega), up_ne (by omega)]; exact g1 k k1 hk
    · rw [hP] at k1; rw [hbd, hz] at hk ⊢; rw [up_ne (by omega), up_ne (by omega), up_ne (by omega)]; exact g2 k k1 hk
    · rw [up_un (by omega)]; exact h4
    · rw [up_un (by omega)]; exact h3
    · rw [up_un (by omega), h3]
      rcases g5 with g5 | ⟨sb, b0, b1, -, b3⟩ <;> omega
    · rw [up_un (by omega)] at j1
      rw [up_ne (by omega), up_ne (by omega), up_ne (by omega), up_ne (by omega)]
      exact g3 j j0 j1
    · rw [up_un (by omega)]; exact g6 b j y1 y2 y3 y4 y5 y6
  have main : ∀ q : Int, q ≤ (P : Int) → ∀ (N : xM) (sp b st : Int) (w10 w12 : xV), 0 ≤ q → FI M N p p2 T n l v z (wd (tB (tS T) l.toNat)) c s e0 sp q.toNat → b = nH T v z q.toNat → (q < P → M (p2 + 1) sp ≤ v + q * z) → Ru (d + 2) kNodes_fill 61 [xO 3 p, xI n, xI l, xO 5 p2, xI P, xI (z32 (32 - bb)), xI sp, xI b, xI st, xI q, w10, xU, w12, xU] [] N Q := by
    refine loop_up (P : Int) (fun q q1 ih N sp b st w10 w12 q0 hI hbq hsp => ?_)
    by_cases hqP : (P : Int) ≤ q
    · exact fin N sp b st q w10 w12 (by rw [show q.toNat = P by omega] at hI; exact hI) hqP
    · obtain ⟨z1, z2⟩ := hq q q0 (by omega)
      have hqc : ((q.toNat : Nat) : Int) = q := Int.toNat_of_nonneg q0
      obtain ⟨hpN, hn1⟩ := FI_sp hap nc hI
      have g4 := hI.2.2.2.2.1
      have hSN : SR N p2 T := SR_fr hS (fun b j b0 b1 => hpN b j b0 (by omega))
      have eN1 : N (p2 + 1) = M (p2 + 1) := funext fun j => hpN _ _ (by omega) (by omega)
      have eN0 : N p2 0 = M p2 0 := hpN _ _ (by omega) (by omega)
      have eN3 : ∀ j : Int, N (p2 + 3) j = M (p2 + 3) j := fun j => hpN _ _ (by omega) (by omega)
      have eN4 : ∀ j : Int, N (p2 + 4) j = M (p2 + 4) j := fun j => hpN _ _ (by omega) (by omega)
      refine vNodes_fill_61 ⟨fun w => absurd w hqP, fun _ => ⟨by omega, ?_⟩⟩
      rw [hn1, ev, lshl_wd (by omega) (by omega) (by rw [hz]; omega) (by rw [hz]; omega), hz, z64_id (by omega) (by omega)]
      refine qSpans_spanWith hSN (by omega) (by omega) (by omega) (by rw [eN1]; exact hsp (by omega)) (fun i i0 i1 f0 f1 => vNodes_fill_91 ?_)
      rw [eN1, eN0] at f1
      rw [eN1] at f0
      rw [eN0] at i1
      have hnx : nxF (M (p2 + 1)) (M p2 0) i ≤ 4294967296 := by
        by_cases e : i + 1 < M p2 0
        · rw [nxF_in e]; have := rows_in spR (i := i + 1) (by omega) e; omega
        · rw [nxF_end e]; omega
      have elast : N (p2 + 2) i = nxF (M (p2 + 1)) (M p2 0) i - 1 := by rw [hSN.2.2.1 i (by omega) (by omega), eN1, eN0]
      have ehop : N (p2 + 3) i = hp T (v + q * z) := by rw [eN3]; exact (hS.2.2.2 i (by omega) i1 _ f0 f1).symm
      have ecod : N (p2 + 4) i = cod T (v + q * z) := by rw [eN4]; exact (spR.2.2.2.1 i (by omega) i1 _ f0 f1).symm
      have hlf := lfp_rows spR (by omega) i1 f0 f1 wp z2
      have hFi : M (p2 + 1) i < v + wd (tB (tS T) l.toNat) := by
        have := qz_le (q := q) (n := (P : Int)) (by omega) wp
        omega
      rw [elast, z64_id (x := nxF (M (p2 + 1)) (M p2 0) i - 1 - (v + q * z)) (by omega) (by omega), z64_id (by omega) (by omega), show nxF (M (p2 + 1)) (M p2 0) i - 1 - (v + q * z) + 1 = nxF (M (p2 + 1)) (M p2 0) i - (v + q * z) by omega, lshr_wd (by omega) (by omega) ⟨by omega, by omega⟩, hz]
      generalize hD : nxF (M (p2 + 1)) (M p2 0) i - (v + q * z) = D at *
      have hdiv := Int.emod_add_mul_ediv D z
      have hmod := Int.emod_nonneg D (show z ≠ 0 by omega)
      have hmod2 := Int.emod_lt_of_pos D wp
      have hdnn : 0 ≤ D / z := Int.ediv_nonneg (by omega) (by omega)
      refine ⟨by omega, fun hpos => ⟨by omega, ?_⟩, fun hpos => ⟨by omega, by omega, ?_⟩⟩
      · -- a leaf
        have hge : z ≤ D := by
          have := Int.mul_le_mul_of_nonneg_left (show 1 ≤ D / z by omega) (show 0 ≤ z by omega)
          rw [Int.mul_one] at this
          omega
        have hlb : lfb T (v + q.toNat * z) z = true := by rw [hqc]; exact lfb_t (hlf.mpr (by omega))
        -- the slots of this span
        have hslot : ∀ j : Nat, q.toNat ≤ j → (j : Int) < q + D / z → lfb T (v + j * z) z = true ∧ cod T (v + j * z) = cod T (v + q.toNat * z) ∧ hp T (v + j * z) = hp T (v + q.toNat * z) := by
          intro j j0 j1
          rw [hqc]
          have k1 := qz_le (q := (j : Int) - q) (n := D / z) (by omega) wp
          have k2 := qz_nn (q := (j : Int) - q) (by omega) wp
          have k3 : (j : Int) * z = q * z + ((j : Int) - q) * z := by rw [← Int.add_mul]; congr 1; omega
          have k4 : D / z * z = z * (D / z) := Int.mul_comm _ _
          have r1 : M (p2 + 1) i ≤ v + j * z := by omega
          have r2 : v + j * z < nxF (M (p2 + 1)) (M p2 0) i := by omega
          refine ⟨lfb_t ((lfp_rows spR (by omega) i1 r1 r2 wp (by omega)).mpr (by omega)), ?_, ?_⟩
          · rw [spR.2.2.2.1 i (by omega) i1 _ r1 r2, spR.2.2.2.1 i (by omega) i1 _ f0 f1]
          · rw [hS.2.2.2 i (by omega) i1 _ r1 r2, hS.2.2.2 i (by omega) i1 _ f0 f1]
        have go : ∀ (N1 : xM), FI M N1 p p2 T n l v z (wd (tB (tS T) l.toNat)) c s e0 i (q.toNat + 1) → Ru (d + 2) kNodes_fill 195 [xO 3 p, xI n, xI l, xO 5 p2, xI P, xI (z32 (32 - bb)), xI i, xI (hp T (v + q * z)), xI 1, xI q, xL (v + q * z), xU, xL (D / z), xU] [] N1 Q := by
          intro N1 hN1
          refine vNodes_fill_195 ?_
          have em : mn (D / z) P = if (P : Int) < D / z then (P : Int) else D / z := rfl
          have hdz : D / z ≤ 4294967296 := by
            have := Int.mul_le_mul_of_nonneg_right (show 1 ≤ z by omega) hdnn
            rw [Int.one_mul] at this
            omega
          have hmn : 1 ≤ mn (D / z) P ∧ mn (D / z) P ≤ P ∧ mn (D / z) P ≤ D / z := by
            rw [em]
            split <;> omega
          rw [z32_id (x := mn (D / z) P) (by omega) (by omega), z32_id (x := q + mn (D / z) P) (by omega) (by omega)]
          by_cases hov : (P : Int) ≤ q + mn (D / z) P
          · refine fin N1 i _ _ _ _ _ ?_ hov
            have := FI_skip (k := P - (q.toNat + 1)) hN1 (fun j j0 j1 => hslot j j0 (by omega))
            rw [show q.toNat + 1 + (P - (q.toNat + 1)) = P by omega] at this
            exact this
          · refine ih (q + mn (D / z) P) (by omega) (by omega) N1 i _ _ _ _ (by omega) ?_ ?_ (fun _ => ?_)
            · have := FI_skip (k := (mn (D / z) P).toNat - 1) hN1 (fun j j0 j1 => hslot j j0 (by omega))
              rw [show q.toNat + 1 + ((mn (D / z) P).toNat - 1) = (q + mn (D / z) P).toNat by omega] at this
              exact this
            · have := (skip (T := T) (v := v) (z := z) (q := q.toNat) ((mn (D / z) P).toNat - 1) (fun j j0 j1 => hslot j j0 (by omega))).2.2.2.2.1
              rw [show q.toNat + 1 + ((mn (D / z) P).toNat - 1) = (q + mn (D / z) P).toNat by omega, hqc] at this
              exact this.symm
            · have k2 := qz_nn (q := mn (D / z) P) (by omega) wp
              rw [Int.add_mul]
              omega
        refine ⟨fun hh => ?_, fun hh => ⟨by omega, by omega, by omega, by omega, ?_⟩⟩
        · rw [ehop, hbq] at hh
          have hh2 : hp T (v + q.toNat * z) = nH T v z q.toNat := by rw [hqc]; exact hh
          have hns : nS T v z q.toNat = false := nS_e ((nH_eq hw v z q.toNat _).mp hh2)
          rw [hbq, ← hh]
          exact go N (FI_keep hI hlb hns hh2 i0 i1 hFi)
        · rw [ehop, hbq] at hh
          have hns : nS T v z q.toNat = true := nS_t hlb (by rw [hqc]; exact fun w => hh ((nH_eq hw v z q.toNat _).mpr w))
          have hhi : M (p2 + 3) i = hp T (v + q.toNat * z) := by rw [hqc, ← eN3]; exact ehop
          have hhn : ¬ M (p2 + 3) i = nH T v z q.toNat := by rw [← eN3, ehop]; exact hh
          have hbound := FI_nb hI hhn i0
          have nb := (nN_b T v z q.toNat).1
          have h3 := hI.1.2.2.1
          rw [up_ne (by omega), ehop, ecod]
          refine qNodes_store (s := s + nN T v z q.toNat) (by rw [up_ne (by omega)]; exact h3) (by omega) (by omega) (fun N1 k1 k2 k3 hf1 => go N1 (FI_store n0 nc hI hlb hns hhi hhn i0 i1 hFi k1 (by rw [hqc]; exact k2) (by rw [hqc]; exact k3) (by rw [hqc]; exact hf1)))
      · -- it leads on
        have hlt : D < z := by
          refine Classical.byContradiction fun w => hpos ?_
          have h0 : 1 ≤ D / z := by
            rw [Int.le_ediv_iff_mul_le wp, Int.one_mul]
            omega
          omega
        have hlb : lfb T (v + q.toNat * z) z = false := by rw [hqc]; exact lfb_f (fun w => by have := hlf.mp w; omega)
        have kb := (nK_b T v z q.toNat).1
        have kb2 := nK_mono (T := T) (v := v) (z := z) (j := q.toNat + 1) (k := P) (by omega)
        rw [nK_n hlb] at kb2
        have h4 := hI.1.2.2.2.1
        rw [z32_id (x := l + 1) (by omega) (by omega)]
        refine qNodes_append (c := c + nK T v z q.toNat) (by rw [up_ne (by omega)]; exact h4) (by omega) (by omega) (fun N1 k1 k2 k3 k4 k5 k6 k7 hf1 => vNodes_fill_145 ?_)
        rw [z32_id (x := q + 1) (by omega) (by omega)]
        have hFI : FI M N1 p p2 T n l v z (wd (tB (tS T) l.toNat)) c s e0 i (q.toNat + 1) := FI_child n0 nc hI hlb e00 i0 i1 hFi (by rw [hqc]; exact f0) (by rw [hqc]; exact f1) k1 (by rw [hqc]; exact k2) k3 k4 k5 k6 k7 (by rw [hqc]; exact hf1)
        have e1 : (q + 1).toNat = q.toNat + 1 := by omega
        refine ih (q + 1) (by omega) (by omega) N1 i _ _ _ _ (by omega) (by rw [e1]; exact hFI) (by rw [e1, nH_n hlb]; exact hbq) (fun _ => ?_)
        rw [Int.add_mul, Int.one_mul]
        omega
  refine main 0 (by omega) _ e0 (-2) 1 xU xU (Int.le_refl _) ⟨⟨?_, ?_, ?_, ?_, ?_, ?_⟩, fun k k1 _ => by omega, fun k k1 _ => by omega, fun j j0 j1 => ?_, ⟨Int.le_refl _, e01, ?_⟩, Or.inl rfl, fun b j y1 y2 y3 y4 y5 y6 => ?_⟩ rfl (fun _ => by rw [Int.zero_mul]; omega)
  · simp (disch := omega) only [up_un]; exact e3
  · simp (disch := omega) only [up_un]; exact e4
  · simp (disch := omega) only [up_un]; rw [es]; show s = s + 0; omega
  · simp (disch := omega) only [up_un]; rw [ec]; show c = c + 0; omega
  · simp (disch := omega) only [up_un, up_at]
  · simp (disch := omega) only [up_at]
  · simp (disch := omega) only [up_un] at j1; omega
  · have := wd_pos (tB (tS T) l.toNat); omega
  · simp (disch := omega) only [up_un]

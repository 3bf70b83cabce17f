/-! THE FEWEST RULES: the class. -/
noncomputable def pC (T : TB) : Nat → Int → Int
  | 0, _ => 1
  | k + 1, v => if lfb T v (2 ^ (k + 1)) = true then 1 else 1 + pC T k v + pC T k (v + 2 ^ k)
section FewClass
variable {T : TB}
theorem pC_y {k : Nat} {v : Int} (h : lfb T v (2 ^ k) = true) : pC T k v = 1 := by
  cases k with
  | zero => rfl
  | succ k =>
    show (if lfb T v (2 ^ (k + 1)) = true then (1 : Int) else _) = 1
    rw [if_pos h]
theorem pC_n {k : Nat} {v : Int} (h : lfb T v (2 ^ (k + 1)) = false) : pC T (k + 1) v = 1 + pC T k v + pC T k (v + 2 ^ k) := by
  show (if lfb T v (2 ^ (k + 1)) = true then (1 : Int) else _) = _
  rw [if_neg (by rw [h]; decide)]
theorem lfb_nl {v z : Int} (h : lfb T v z = false) : ¬ lfp T v z := fun q => by
  rw [lfb_t q] at h
  exact absurd h (by decide)
theorem lfb_yl {v z : Int} (h : lfb T v z = true) : lfp T v z := Classical.byContradiction fun q => by
  rw [lfb_f q] at h
  exact absurd h (by decide)
theorem pC_1 : ∀ (k : Nat) (v : Int), 1 ≤ pC T k v
  | 0, _ => Int.le_refl _
  | k + 1, v => by
    cases h : lfb T v (2 ^ (k + 1)) with
    | true => rw [pC_y h]; exact Int.le_refl _
    | false =>
      have h1 := pC_1 k v
      have h2 := pC_1 k (v + 2 ^ k)
      rw [pC_n h]; omega
theorem pC_b (hw : tWF T) : ∀ (k : Nat) (v : Int), k ≤ 32 → v % 2 ^ k = 0 → 0 ≤ v → v + 2 ^ k ≤ 4294967296 → pC T k v ≤ 1 + 2 * ((k : Int) * (cr T (v + 2 ^ k) - cr T v))
  | 0, v, _, _, _, _ => by
    show (1 : Int) ≤ 1 + 2 * (((0 : Nat) : Int) * _)
    rw [show ((0 : Nat) : Int) = 0 from rfl, Int.zero_mul]
    decide
  | k + 1, v, hk, hv, v0, v1 => by
    obtain ⟨p1, p2⟩ := two_s k
    obtain ⟨m1, m2⟩ := mod_half hv
    have mono : cr T v ≤ cr T (v + 2 ^ (k + 1)) := cr_mono (by omega)
    cases h : lfb T v (2 ^ (k + 1)) with
    | true =>
      rw [pC_y h]
      have : 0 ≤ ((k + 1 : Nat) : Int) * (cr T (v + 2 ^ (k + 1)) - cr T v) := Int.mul_nonneg (by omega) (by omega)
      omega
    | false =>
      have h1 := pC_b hw k v (by omega) m1 v0 (by omega)
      have h2 := pC_b hw k (v + 2 ^ k) (by omega) m2 (by omega) (by omega)
      rw [show v + 2 ^ k + 2 ^ k = v + 2 ^ (k + 1) by omega] at h2
      have hnd : NDT T (32 - ((k + 1 : Nat) : Int)) v := by
        have e := wd_k (k := k + 1) (L := 32 - ((k + 1 : Nat) : Int)) rfl
        refine ⟨⟨v0, by omega⟩, by rw [e]; exact hv, by rw [e]; exact lfb_nl h⟩
      have h3 := cr_lt hw (b := 32 - ((k + 1 : Nat) : Int)) (by omega) hnd
      rw [wd_k (k := k + 1) rfl] at h3
      rw [pC_n h]
      have e1 : ((k : Int)) * (cr T (v + 2 ^ k) - cr T v) + (k : Int) * (cr T (v + 2 ^ (k + 1)) - cr T (v + 2 ^ k)) = (k : Int) * (cr T (v + 2 ^ (k + 1)) - cr T v) := by
        rw [← Int.mul_add]
        congr 1
        omega
      have e2 : ((k + 1 : Nat) : Int) * (cr T (v + 2 ^ (k + 1)) - cr T v) = (k : Int) * (cr T (v + 2 ^ (k + 1)) - cr T v) + (cr T (v + 2 ^ (k + 1)) - cr T v) := by
        rw [show ((k + 1 : Nat) : Int) = (k : Int) + 1 by omega, Int.add_mul, Int.one_mul]
      rw [e2]
      omega
theorem pC_all (hw : tWF T) : pC T 32 0 ≤ 3723 := by
  have e31 : (2 : Int) ^ 31 = 2147483648 := by decide
  cases h : lfb T 0 (2 ^ (31 + 1)) with
  | true =>
    have e : pC T 32 0 = 1 := pC_y (k := 31 + 1) h
    omega
  | false =>
    have e : pC T 32 0 = 1 + pC T 31 0 + pC T 31 (0 + 2 ^ 31) := pC_n h
    have h1 := pC_b hw 31 0 (by decide) (Int.zero_emod _) (by decide) (by rw [e31]; decide)
    have h2 := pC_b hw 31 (0 + 2 ^ 31) (by decide) (by rw [e31]; decide) (by rw [e31]; decide) (by rw [e31]; decide)
    have c1 := cr_b hw (0 + 2 ^ 31 + 2 ^ 31)
    have c2 := cr_b hw 0
    have c3 := cr_b hw (0 + 2 ^ 31)
    rw [show ((31 : Nat) : Int) = 31 from rfl] at h1 h2
    omega
/-- the parts of a beginning stand from m on -/
noncomputable def PT (N : xM) (p : Int) (T : TB) : Nat → Int → Int → Prop
  | 0, v, m => N (p + 4) m = fS T 0 v ∧ N (p + 5) m = -1
  | k + 1, v, m => N (p + 4) m = fS T (k + 1) v ∧ (lfb T v (2 ^ (k + 1)) = true → N (p + 5) m = -1) ∧ (lfb T v (2 ^ (k + 1)) = false → N (p + 5) m = m + 1 + pC T k v ∧ PT N p T k v (m + 1) ∧ PT N p T k (v + 2 ^ k) (m + 1 + pC T k v))
theorem PT_fr {M N : xM} {p : Int} : ∀ (k : Nat) (v m : Int), PT M p T k v m → (∀ j : Int, m ≤ j → j < m + pC T k v → N (p + 4) j = M (p + 4) j ∧ N (p + 5) j = M (p + 5) j) → PT N p T k v m
  | 0, v, m, h, e => by
    obtain ⟨e1, e2⟩ := e m (Int.le_refl _) (by show m < m + 1; omega)
    have h2 : M (p + 4) m = fS T 0 v ∧ M (p + 5) m = -1 := h
    exact ⟨by rw [e1]; exact h2.1, by rw [e2]; exact h2.2⟩
  | k + 1, v, m, h, e => by
    obtain ⟨h1, h2, h3⟩ := h
    have hp1 := pC_1 (T := T) (k + 1) v
    obtain ⟨e1, e2⟩ := e m (Int.le_refl _) (by omega)
    refine ⟨by rw [e1]; exact h1, fun z => by rw [e2]; exact h2 z, fun z => ?_⟩
    obtain ⟨h4, h5, h6⟩ := h3 z
    rw [pC_n z] at e
    have q1 := pC_1 (T := T) k v
    have q2 := pC_1 (T := T) k (v + 2 ^ k)
    exact ⟨by rw [e2]; exact h4, PT_fr k v _ h5 (fun j j0 j1 => e j (by omega) (by omega)), PT_fr k _ _ h6 (fun j j0 j1 => e j (by omega) (by omega))⟩
theorem PT_set {N : xM} {p : Int} {k : Nat} {v m : Int} (h : PT N p T k v m) : N (p + 4) m = fS T k v := by
  cases k with
  | zero => exact h.1
  | succ k => exact h.1
theorem PT_leaf {N : xM} {p : Int} {k : Nat} {v m : Int} (hl : lfb T v (2 ^ k) = true) (h : PT N p T k v m) : N (p + 5) m = -1 := by
  cases k with
  | zero => exact h.2
  | succ k => exact h.2.1 hl
theorem PT_mk {N : xM} {p : Int} {k : Nat} {v m : Int} (hl : lfb T v (2 ^ k) = true) (h1 : N (p + 4) m = fS T k v) (h2 : N (p + 5) m = -1) : PT N p T k v m := by
  cases k with
  | zero => exact ⟨h1, h2⟩
  | succ k => exact ⟨h1, fun _ => h2, fun z => by rw [hl] at z; exact absurd z (by decide)⟩
theorem qFewest_part (hw : tWF T) {p p2 : Int} (hap : p + 5 < p2 ∨ p2 + 7 < p) : ∀ (k : Nat) (d : Nat) (M : xM) (Q : xQ) (v s m : Int), k ≤ 32 → v % 2 ^ k = 0 → 0 ≤ v → v + 2 ^ k ≤ 4294967296 → SR M p2 T → 0 ≤ s → s < M p2 0 → M (p2 + 1) s ≤ v → M p 6 = m → 0 ≤ m → m + pC T k v ≤ 3723 → (∀ N : xM, N p 6 = m + pC T k v → PT N p T k v m → (∀ b j : Int, ¬ (b = p ∧ j = 6) → ¬ ((b = p + 4 ∨ b = p + 5) ∧ m ≤ j) → N b j = M b j) → Q (xI m) N) → Ru (d + k + 1) kFewest_part 0 [xO 1 p, xO 5 p2, xL v, xU, xI (32 - (k : Int)), xI s, xU, xU, xU, xU, xU, xU, xU, xU] [] M Q := by
  intro k
  induction k with
  | zero =>
    intro d M Q v s m hk hv v0 v1 hS s0 s1 hs em m0 mb h
    rw [show (2 : Int) ^ 0 = 1 from rfl] at v1
    have hm1 : pC T 0 v = 1 := rfl
    refine vFewest_part_0 ⟨fun q => by omega, fun q => ⟨fun _ => ?_, fun z => by omega⟩⟩
    have hS1 : SR (up M p 6 (z32 (M p 6 + 1))) p2 T := SR_fr hS (fun b j b0 b1 => up_un (by omega))
    refine qSpans_spanWith hS1 (by omega) s0 (by rw [up_ne (by omega)]; exact s1) (by rw [up_ne (by omega)]; exact hs) (fun i i0 i1 i2 i3 => vFewest_part_40 (qRS_widthOf (by omega) (by omega) (vFewest_part_47 ?_)))
    rw [up_ne (by omega)] at i1 i2
    rw [show up M p 6 (z32 (M p 6 + 1)) (p2 + 1) = M (p2 + 1) from funext fun j => up_ne (by omega), up_ne (by omega)] at i3
    have e3 := hS.2.2.2 i (by omega) i1 v i2 i3
    have e2 := hS.2.2.1 i (by omega) i1
    have m121 := hS.2.1
    have hb := hp_b hw v
    rw [em, z32_id (x := m + 1) (by omega) (by omega)]
    simp (disch := omega) only [up_un]
    rw [← e3, e2, z32_id (x := hp T v + 1) (by omega) (by omega), show (32 : Int) - ((0 : Nat) : Int) = 32 from rfl, wd_32, z64_id (x := v + 1) (by omega) (by omega), z64_id (x := v + 1 - 1) (by omega) (by omega)]
    refine ⟨by omega, by omega, by omega, by omega, fun z => by omega, fun _ => ?_⟩
    refine h _ ?_ ⟨?_, ?_⟩ (fun b j hb1 hb2 => ?_)
    · rw [hm1, up_un (by omega), up_un (by omega), up_same]
    · rw [up_same]; rfl
    · rw [up_un (by omega), up_same]
    · rw [up_un (by omega), up_un (by omega), up_un (by omega)]
  | succ k ih =>
    intro d M Q v s m hk hv v0 v1 hS s0 s1 hs em m0 mb h
    obtain ⟨p1, p2'⟩ := two_s k
    obtain ⟨mh1, mh2⟩ := mod_half hv
    have hp1 := pC_1 (T := T) (k + 1) v
    have hwk := wd_k (k := k + 1) (L := 32 - ((k + 1 : Nat) : Int)) rfl
    rw [show d + (k + 1) + 1 = (d + k + 1) + 1 by omega]
    refine vFewest_part_0 ⟨fun q => by omega, fun q => ⟨fun _ => ?_, fun z => by omega⟩⟩
    have hS1 : SR (up M p 6 (z32 (M p 6 + 1))) p2 T := SR_fr hS (fun b j b0 b1 => up_un (by omega))
    refine qSpans_spanWith hS1 (by omega) s0 (by rw [up_ne (by omega)]; exact s1) (by rw [up_ne (by omega)]; exact hs) (fun i i0 i1 i2 i3 => vFewest_part_40 (qRS_widthOf (by omega) (by omega) (vFewest_part_47 ?_)))
    rw [up_ne (by omega)] at i1 i2
    rw [show up M p 6 (z32 (M p 6 + 1)) (p2 + 1) = M (p2 + 1) from funext fun j => up_ne (by omega), up_ne (by omega)] at i3
    have e3 := hS.2.2.2 i (by omega) i1 v i2 i3
    have e2 := hS.2.2.1 i (by omega) i1
    have m121 := hS.2.1
    have hb := hp_b hw v
    have hlf := lfp_rows hS.1 (i := i) (f := v) (z := 2 ^ (k + 1)) (by omega) i1 i2 i3 (by omega) v1
    rw [em, z32_id (x := m + 1) (by omega) (by omega)]
    simp (disch := omega) only [up_un]
    rw [← e3, e2, z32_id (x := hp T v + 1) (by omega) (by omega), hwk, z64_id (x := v + 2 ^ (k + 1)) (by omega) (by omega), z64_id (x := v + 2 ^ (k + 1) - 1) (by omega) (by omega)]
    refine ⟨by omega, by omega, by omega, by omega, fun z => ?_, fun z => ?_⟩
    · have hl : lfb T v (2 ^ (k + 1)) = false := lfb_f (fun z2 => by have := hlf.mp z2; omega)
      have ec := pC_n hl
      have q1 := pC_1 (T := T) k v
      have q2 := pC_1 (T := T) k (v + 2 ^ k)
      rw [z32_id (x := 32 - ((k + 1 : Nat) : Int) + 1) (by omega) (by omega), show 32 - ((k + 1 : Nat) : Int) + 1 = 32 - (k : Int) by omega]
      refine ih d _ _ v i (m + 1) (by omega) mh1 v0 (by omega) (SR_fr hS (fun b j b0 b1 => ?_)) (by omega) ?_ ?_ ?_ (by omega) (by omega) (fun N1 n6 nP nf => vFewest_part_107 ⟨by decide, ?_⟩)
      · rw [up_un (by omega), up_un (by omega), up_un (by omega)]
      · rw [up_un (by omega), up_un (by omega), up_un (by omega)]; exact i1
      · rw [up_un (by omega), up_un (by omega), up_un (by omega)]; exact i2
      · rw [up_un (by omega), up_un (by omega), up_same]
      rw [ldiv_eq (by omega) (by omega) (by decide) (by decide), show (2 : Int) ^ (k + 1) / 2 = 2 ^ k by omega, z64_id (x := v + 2 ^ k) (by omega) (by omega), z32_id (x := 32 - ((k + 1 : Nat) : Int) + 1) (by omega) (by omega), show 32 - ((k + 1 : Nat) : Int) + 1 = 32 - (k : Int) by omega]
      have nf0 : ∀ b j : Int, p2 ≤ b → b ≤ p2 + 7 → N1 b j = M b j := fun b j b0 b1 => by
        rw [nf b j (by omega) (by omega), up_un (by omega), up_un (by omega), up_un (by omega)]
      refine ih d _ _ (v + 2 ^ k) i (m + 1 + pC T k v) (by omega) mh2 (by omega) (by omega) (SR_fr hS (fun b j b0 b1 => nf0 b j (by omega) (by omega))) (by omega) (by rw [nf0 _ _ (by omega) (by omega)]; exact i1) (by rw [nf0 _ _ (by omega) (by omega)]; omega) n6 (by omega) (by omega) (fun N2 o6 oP of => vFewest_part_128 ?_)
      refine ⟨fun z => by omega, fun _ => ⟨fun z => by omega, fun _ => ⟨fun z => by omega, fun _ => ⟨fun z => by omega, fun _ => ⟨by omega, by omega, ?_⟩⟩⟩⟩⟩
      have nP2 : PT N2 p T k v (m + 1) := PT_fr k v _ nP (fun j j0 j1 => ⟨of _ _ (by omega) (by omega), of _ _ (by omega) (by omega)⟩)
      rw [PT_set nP2, PT_set oP]
      have fin : ∀ S : Int, S = fS T (k + 1) v → Q (xI m) (up (up N2 (p + 4) m S) (p + 5) m (m + 1 + pC T k v)) := fun S eS => by
        refine h _ ?_ ⟨?_, fun z => ?_, fun _ => ⟨up_same, PT_fr k v _ nP2 (fun j j0 j1 => ?_), PT_fr k _ _ oP (fun j j0 j1 => ?_)⟩⟩ (fun b j hb1 hb2 => ?_)
        · rw [up_un (by omega), up_un (by omega), o6, ec]; omega
        · rw [up_un (by omega), up_same]; exact eS
        · rw [hl] at z; exact absurd z (by decide)
        · rw [up_un (by omega), up_un (by omega), up_un (by omega), up_un (by omega)]
          exact ⟨rfl, rfl⟩
        · rw [up_un (by omega), up_un (by omega), up_un (by omega), up_un (by omega)]
          exact ⟨rfl, rfl⟩
        · rw [up_un (by omega), up_un (by omega), of b j (by omega) (by omega), nf b j (by omega) (by omega), up_un (by omega), up_un (by omega), up_un (by omega)]
      refine ⟨fun z2 => ⟨by omega, by omega, by omega, by omega, fin _ (fS_or hl z2).symm⟩, fun z2 => ⟨by omega, by omega, fin _ (fS_and hl z2).symm⟩⟩
    · have hl : lfb T v (2 ^ (k + 1)) = true := lfb_t (hlf.mpr (by omega))
      have ec := pC_y hl
      refine h _ ?_ (PT_mk hl ?_ ?_) (fun b j hb1 hb2 => ?_)
      · rw [ec, up_un (by omega), up_un (by omega), up_same]
      · rw [up_same, fS_leaf hl]
      · rw [up_un (by omega), up_same]
      · rw [up_un (by omega), up_un (by omega), up_un (by omega)]
end FewClass

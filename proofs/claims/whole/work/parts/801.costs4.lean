/-! WHAT STRIDES COST: the reference. -/
theorem FR_no : FR (-1) = 1000000000 := rfl
theorem ishl_c {c s : Int} (s0 : 2 ≤ s) (s1 : s ≤ 6) : c * ishl 1 s = c * 2 ^ s.toNat := by rw [ishl_p (by omega) (by omega)]
theorem qMo_slotsIf {d : Nat} {M : xM} {Q : xQ} {c : Int → Int} {r b l s : Int} (hc : cLo c) (hN : M (r + 31) b = c b) (b0 : 0 ≤ b) (b1 : b ≤ 32) (l0 : 1 ≤ l) (l1 : l ≤ 16) (s0 : 2 ≤ s) (s1 : s ≤ 6) (he : b + s ≤ 32 → M (r + 32) (17 * (b + s) + (l - 1)) = FR (sl c (l - 1).toNat (b + s))) (h : Q (xI (FR (sw5 c (sl c (l - 1).toNat) b s))) M) : Ru d kMo_slotsIf 0 [xO 9 r, xI b, xI s, xI l, xU] [] M Q := by
  have h1 := c_p2 (hc b).1 (hc b).2 s0 s1
  have h2 := sl_b hc (l - 1).toNat (b + s)
  refine vMo_slotsIf_0 ?_
  rw [z32_id (x := b + s) (by omega) (by omega)]
  refine ⟨fun q => ?_, fun q => ?_⟩
  · rw [z32_id (x := 17 * (b + s)) (by omega) (by omega), z32_id (x := 17 * (b + s) + l) (by omega) (by omega), z32_id (x := 17 * (b + s) + l - 1) (by omega) (by omega), show 17 * (b + s) + l - 1 = 17 * (b + s) + (l - 1) by omega, he q, hN, ishl_c s0 s1, z32_id (x := c b * 2 ^ s.toNat) (by omega) (by omega)]
    unfold sw5 at h
    rw [if_neg (by omega)] at h
    refine ⟨by omega, fun q2 => ⟨by omega, ?_⟩, fun q2 => ?_⟩
    · by_cases e : sl c (l - 1).toNat (b + s) = -1
      · rw [e] at q2; exact absurd FR_no q2
      · rw [if_neg e, FR_y (by omega)] at h
        rw [FR_y e, z32_id (by omega) (by omega)]
        exact h
    · by_cases e : sl c (l - 1).toNat (b + s) = -1
      · rw [if_pos e] at h; exact h
      · rw [FR_y e] at q2; omega
  · unfold sw5 at h
    rw [if_pos (by omega)] at h
    exact h
def RC (M : xM) (r : Int) (c : Int → Int) : Prop := (∀ b : Int, 0 ≤ b → b ≤ 32 → M (r + 31) b = c b) ∧ ∀ b l : Int, 0 ≤ b → b ≤ 32 → 0 ≤ l → l ≤ 16 → M (r + 32) (17 * b + l) = FR (sl c l.toNat b)
theorem FR_mE {A X : Int} (hA : A = -1 ∨ (0 ≤ A ∧ A ≤ 1000000)) (hX : X = -1 ∨ (0 ≤ X ∧ X ≤ 1000000)) : FR (mE A X) = if FR A ≤ FR X then FR A else FR X := by
  unfold mE FR
  by_cases e : X = -1
  · rw [if_pos e, if_pos e]
    by_cases e2 : A = -1
    · rw [if_pos e2, if_pos (by omega)]
    · rw [if_neg e2, if_pos (by omega)]
  · rw [if_neg e]
    by_cases e2 : A = -1
    · rw [if_pos e2, if_pos e2, if_neg e, if_neg (by omega)]
    · rw [if_neg e2, if_neg e2, if_neg e]
      by_cases e3 : X < A
      · rw [if_pos e3, if_neg e, if_neg (by omega)]
      · rw [if_neg e3, if_neg e2, if_pos (by omega)]
theorem qMo_laysSlots {d : Nat} {M : xM} {Q : xQ} {T : TB} {r : Int} (hR : RW M r 0 T) (h : ∀ N : xM, RC N r (nA (M (r + 6)) (M (r + 5) 0)) → (∀ b j : Int, ¬ b = r + 31 → ¬ b = r + 32 → N b j = M b j) → Q xU N) : Ru (d + 2) kMo_laysSlots 0 [xO 9 r, xU, xU, xU, xU] [] M Q := by
  have hm := hR.2.1
  have hc : cLo (nA (M (r + 6)) (M (r + 5) 0)) := nA_lo hm
  generalize hc2 : nA (M (r + 6)) (M (r + 5) 0) = c at h hc
  refine vMo_laysSlots_0 (loop_up 33 (P := fun i => ∀ N : xM, 0 ≤ i → (∀ j : Int, 0 ≤ j → j < i → N (r + 31) j = c j) → (∀ b j : Int, ¬ b = r + 31 → N b j = M b j) → Ru (d + 2) kMo_laysSlots 2 [xO 9 r, xI i, xU, xU, xU] [] N Q) (fun i hi ih N i0 hN hf => ?_) 0 (by decide) M (by decide) (fun j j0 j1 => by omega) (fun _ _ _ => rfl))
  refine vMo_laysSlots_2 ⟨fun q => ?_, fun q => ?_⟩
  · have ei : i = 33 := by omega
    subst ei
    refine loop_dn (-1) (P := fun i => ∀ (N2 : xM) (w2 w3 w4 : xV), i ≤ 32 → (∀ b : Int, 0 ≤ b → b ≤ 32 → N2 (r + 31) b = c b) → (∀ b l : Int, i < b → b ≤ 32 → 0 ≤ l → l ≤ 16 → N2 (r + 32) (17 * b + l) = FR (sl c l.toNat b)) → (∀ b j : Int, ¬ b = r + 31 → ¬ b = r + 32 → N2 b j = M b j) → Ru (d + 2) kMo_laysSlots 28 [xO 9 r, xI i, w2, w3, w4] [] N2 Q) (fun i hi ih2 N2 w2 w3 w4 i1 hn hs hf2 => ?_) 32 (by decide) _ _ _ _ (Int.le_refl _) (fun b b0 b1 => hN b b0 (by omega)) (fun b l b0 b1 => by omega) (fun b j hb _ => hf b j hb)
    refine vMo_laysSlots_28 ⟨fun q2 => ?_, fun q2 => ?_⟩
    · have ei : i = -1 := by omega
      subst ei
      exact h N2 ⟨hn, fun b l b0 b1 l0 l1 => hs b l (by omega) b1 l0 l1⟩ hf2
    · refine loop_up 17 (P := fun l => ∀ (N3 : xM) (w3 w4 : xV), 0 ≤ l → (∀ b : Int, 0 ≤ b → b ≤ 32 → N3 (r + 31) b = c b) → (∀ b l : Int, i < b → b ≤ 32 → 0 ≤ l → l ≤ 16 → N3 (r + 32) (17 * b + l) = FR (sl c l.toNat b)) → (∀ k : Int, 0 ≤ k → k < l → N3 (r + 32) (17 * i + k) = FR (sl c k.toNat i)) → (∀ b j : Int, ¬ b = r + 31 → ¬ b = r + 32 → N3 b j = M b j) → Ru (d + 2) kMo_laysSlots 34 [xO 9 r, xI i, xI l, w3, w4] [] N3 Q) (fun l hl ih3 N3 w3 w4 l0 hn3 hs3 hr3 hf3 => ?_) 0 (by decide) _ _ _ (by decide) hn hs (fun k k0 k1 => by omega) hf2
      have fin : ∀ (x : Int) (w : Int), x = FR (sl c l.toNat i) → l ≤ 16 → (0 ≤ z32 (z32 (17 * i) + l) ∧ z32 (z32 (17 * i) + l) < 561) ∧ Ru (d + 2) kMo_laysSlots 34 [xO 9 r, xI i, xI (z32 (l + 1)), xI x, xI w] [] (up N3 (r + 32) (z32 (z32 (17 * i) + l)) x) Q := fun x w hx l1 => by
        rw [z32_id (x := 17 * i) (by omega) (by omega), z32_id (x := 17 * i + l) (by omega) (by omega), z32_id (x := l + 1) (by omega) (by omega)]
        refine ⟨by omega, ih3 (l + 1) (by omega) (by omega) _ _ _ (by omega) (fun b b0 b1 => by rw [up_un (by omega)]; exact hn3 b b0 b1) (fun b l b0 b1 l0 l1 => by rw [up_un (by omega)]; exact hs3 b l b0 b1 l0 l1) (fun k k0 k1 => ?_) (fun b j hb hb2 => by rw [up_un (by omega)]; exact hf3 b j hb hb2)⟩
        by_cases e : k = l
        · rw [e, up_same]; exact hx
        · rw [up_off (by omega)]; exact hr3 k k0 (by omega)
      have two : 1 ≤ l → l ≤ 16 → Ru (d + 2) kMo_laysSlots 61 [xO 9 r, xI i, xI l, xI 1000000000, xI 2] [] N3 Q := fun l1 l2 => by
        have hsb := sl_b hc (l - 1).toNat
        have hsb2 : ∀ x : Int, sl c (l - 1).toNat x = -1 ∨ (0 ≤ sl c (l - 1).toNat x ∧ sl c (l - 1).toNat x ≤ 122880) := fun x => by rcases hsb x with e | e <;> omega
        rw [← show FR (bs5 c (sl c (l - 1).toNat) i (2 - 2 : Int).toNat) = 1000000000 from rfl]
        refine loop_up 7 (P := fun s => 2 ≤ s → Ru (d + 2) kMo_laysSlots 61 [xO 9 r, xI i, xI l, xI (FR (bs5 c (sl c (l - 1).toNat) i (s - 2).toNat)), xI s] [] N3 Q) (fun s hs2 ih4 s0 => ?_) 2 (by decide) (by decide)
        refine vMo_laysSlots_61 ⟨fun q5 => ?_, fun q5 => ⟨fun q6 => by omega, fun q6 => ?_⟩⟩
        · have es : s = 7 := by omega
          subst es
          refine fin _ _ ?_ l2
          rw [show l.toNat = (l - 1).toNat + 1 by omega]
          rfl
        · have h1 := bs5_b (b := i) hc hsb2 (s - 2).toNat (by omega)
          have h2 := sw5_b (b := i) hc hsb2 s0 (by omega)
          have ih' := ih4 (s + 1) (by omega) (by omega) (by omega)
          rw [bs5_t s0, FR_mE (by omega) (by omega)] at ih'
          refine qMo_slotsIf hc (hn3 i (by omega) i1) (by omega) i1 l1 l2 s0 (by omega) (fun z => hs3 _ _ (by omega) z (by omega) (by omega)) (vMo_laysSlots_80 ⟨fun q7 => ?_, fun q7 => ?_⟩)
          · rw [if_pos q7] at ih'
            rw [z32_id (by omega) (by omega)]
            exact ih'
          · rw [if_neg q7] at ih'
            refine qMo_slotsIf hc (hn3 i (by omega) i1) (by omega) i1 l1 l2 s0 (by omega) (fun z => hs3 _ _ (by omega) z (by omega) (by omega)) (vMo_laysSlots_92 ?_)
            rw [z32_id (by omega) (by omega)]
            exact ih'
      have zero : ∀ x : Int, l = 0 → x = FR (if i = 32 then 0 else -1) → Ru (d + 2) kMo_laysSlots 61 [xO 9 r, xI i, xI l, xI x, xI 2] [] N3 Q := fun x l9 hx => by
        refine vMo_laysSlots_61 ⟨fun q5 => absurd q5 (by decide), fun q5 => ⟨fun q6 => fin _ _ ?_ (by omega), fun q6 => by omega⟩⟩
        rw [l9]; exact hx
      refine vMo_laysSlots_34 ⟨fun q3 => ?_, fun q3 => ⟨fun q4 => ?_, fun q4 => ⟨fun q5 => two (by omega) (by omega), fun q5 => ?_⟩⟩⟩
      · rw [z32_id (by omega) (by omega)]
        refine ih2 (i + -1) (by omega) (by omega) N3 _ _ _ (by omega) hn3 (fun b k b0 b1 k0 k1 => ?_) hf3
        by_cases e : b = i
        · rw [e]; exact hr3 k k0 (by omega)
        · exact hs3 b k (by omega) b1 k0 k1
      · by_cases e : l = 0
        · refine zero _ e ?_
          rw [if_neg q4]; rfl
        · exact two (by omega) (by omega)
      · refine zero _ (Classical.not_not.mp q5) ?_
        rw [if_pos (Classical.not_not.mp q4)]; rfl
  · have hR2 : RW N r 0 T := RW_fr hR (fun b j b0 b1 => hf b j (by omega))
    refine qMo_nodesOf hR2 i0 (by omega) (vMo_laysSlots_18 ⟨by omega, ?_⟩)
    rw [z32_id (by omega) (by omega), hf (r + 5) 0 (by omega), show N (r + 6) = M (r + 6) from funext fun j => hf _ _ (by omega), hc2]
    refine ih (i + 1) (by omega) (by omega) _ (by omega) (fun j j0 j1 => ?_) (fun b j hb => by rw [up_un (by omega)]; exact hf b j hb)
    by_cases e : j = i
    · rw [e, up_same]
    · rw [up_off e]; exact hN j j0 (by omega)
theorem FR_eq {X Z : Int} (hZ : ¬ Z = -1) (hZ2 : Z ≤ 1000000) : FR X = Z ↔ X = Z := by
  unfold FR
  by_cases e : X = -1
  · rw [if_pos e]; omega
  · rw [if_neg e]
theorem qMo_stridesOf {d : Nat} {M : xM} {Q : xQ} {c : Int → Int} {r l : Int} (hc : cLo c) (hC : RC M r c) (l0 : 6 ≤ l) (l1 : l ≤ 16) (h : ∀ y : Int, isDg c l.toNat 0 0 y → Q (xL y) M) : Ru (d + 1) kMo_stridesOf 0 [xO 9 r, xI l, xU, xU, xU, xU, xU] [] M Q := by
  have hf0 := sl_0 hc l0 l1
  refine vMo_stridesOf_0 (loop_dn 0 (P := fun k => ∀ (b x : Int) (w : xV), k ≤ 16 → 0 ≤ b → b ≤ 32 → ¬ sl c k.toNat b = -1 → (∀ y : Int, isDg c k.toNat b x y → Q (xL y) M) → Ru (d + 1) kMo_stridesOf 8 [xO 9 r, xI l, xL x, xU, xI b, xI k, w] [] M Q) (fun k hk ih b x w k1 b0 b1 hf hq => ?_) l (by omega) 0 0 _ l1 (by decide) (by decide) hf0 h)
  refine vMo_stridesOf_8 ⟨fun q => ?_, fun q => ?_⟩
  · refine hq x ?_
    rw [show k = 0 by omega]
    rfl
  · have ek : k.toNat = (k - 1).toNat + 1 := by omega
    rw [ek] at hf
    have hsb2 := sl_b hc ((k - 1).toNat + 1) b
    obtain ⟨s9, s90, s91, s92⟩ := bs5_at 5 hf
    refine loop_up 6 (P := fun s => 2 ≤ s → (∀ j : Int, 2 ≤ j → j < s → ¬ sw5 c (sl c (k - 1).toNat) b j = sl c ((k - 1).toNat + 1) b) → Ru (d + 1) kMo_stridesOf 16 [xO 9 r, xI l, xL x, xU, xI b, xI k, xI s] [] M Q) (fun s hs ihs s0 hno => ?_) 2 (by decide) (by decide) (fun j j0 j1 => by omega)
    refine vMo_stridesOf_16 (qMo_slotsIf hc (hC.1 b b0 b1) b0 b1 (by omega) k1 s0 hs (fun z => hC.2 _ _ (by omega) z (by omega) (by omega)) (vMo_stridesOf_26 ?_))
    rw [z32_id (x := 17 * b) (by omega) (by omega), z32_id (x := 17 * b + k) (by omega) (by omega), hC.2 b k b0 b1 (by omega) k1, ek, FR_y hf]
    have hy2 : FR (sw5 c (sl c (k - 1).toNat) b s) = sl c ((k - 1).toNat + 1) b ↔ _ := FR_eq hf (by omega)
    refine ⟨by omega, fun q3 => ?_, fun q3 => ?_⟩
    · have hs2 : isSt c (k - 1).toNat b s := ⟨⟨s0, hs⟩, hy2.mp q3, hno⟩
      have hs2' : ¬ sw5 c (sl c (k - 1).toNat) b s = -1 := by rw [hs2.2.1]; exact hf
      have hs3 : ¬ 32 < b + s := fun z => hs2' (by unfold sw5; rw [if_pos z])
      have hs4 : ¬ sl c (k - 1).toNat (b + s) = -1 := fun z => hs2' (by unfold sw5; rw [if_neg hs3, if_pos z])
      rw [z32_id (x := b + s) (by omega) (by omega), z32_id (x := k + -1) (by omega) (by omega)]
      refine ih (k + -1) (by omega) (by omega) _ _ _ (by omega) (by omega) (by omega) hs4 (fun y hy => hq y ?_)
      rw [ek]
      rw [show (10 : Int) * x = x * 10 by omega] at hy
      exact ⟨s, hs2, hy⟩
    · have ne9 : ∀ j : Int, 2 ≤ j → j < s + 1 → ¬ sw5 c (sl c (k - 1).toNat) b j = sl c ((k - 1).toNat + 1) b := fun j j0 j1 => by
        by_cases e : j = s
        · rw [e]; exact fun z => q3 (hy2.mpr z)
        · exact hno j j0 (by omega)
      have hs6 : s < 6 := by
        refine Classical.byContradiction fun z => ne9 s9 s90 (by omega) s92
      rw [z32_id (by omega) (by omega)]
      exact ihs (s + 1) (by omega) (by omega) (by omega) ne9
theorem qMo_best {d : Nat} {M : xM} {Q : xQ} {T : TB} {r m w : Int} (hR : RW M r 0 T) (h0 : ¬ (6 ≤ m ∧ m ≤ 16 ∧ (w = 0 ∨ w = 1)) → Q (xL (-1)) M) (h1 : 6 ≤ m → m ≤ 16 → w = 0 → ∀ N : xM, (∀ b j : Int, ¬ b = r + 31 → ¬ b = r + 32 → N b j = M b j) → Q (xL (sl (nA (M (r + 6)) (M (r + 5) 0)) (bl (nA (M (r + 6)) (M (r + 5) 0)) (m - 6).toNat).toNat 0)) N) (h2 : 6 ≤ m → m ≤ 16 → w = 1 → ∀ (N : xM) (y : Int), (∀ b j : Int, ¬ b = r + 31 → ¬ b = r + 32 → N b j = M b j) → isDg (nA (M (r + 6)) (M (r + 5) 0)) (bl (nA (M (r + 6)) (M (r + 5) 0)) (m - 6).toNat).toNat 0 0 y → Q (xL y) N) : Ru (d + 3) kMo_best 0 [xO 9 r, xI m, xI w, xU, xU] [] M Q := by
  have hc : cLo (nA (M (r + 6)) (M (r + 5) 0)) := nA_lo hR.2.1
  refine vMo_best_0 (qMo_isIn (fun a1 a2 => vMo_best_11 ⟨fun z => absurd z (by decide), fun _ => ?_⟩) (fun a => vMo_best_11 ⟨fun _ => h0 (by omega), fun z => absurd rfl z⟩))
  refine qMo_isIn (fun a3 a4 => vMo_best_21 ⟨fun _ => ?_, fun z => absurd (by decide) z⟩) (fun a => vMo_best_21 ⟨fun z => absurd rfl z, fun _ => h0 (by omega)⟩)
  refine qMo_laysSlots hR (fun N hC hf => vMo_best_32 ?_)
  generalize nA (M (r + 6)) (M (r + 5) 0) = c at h1 h2 hc hC
  refine loop_up (m + 1) (P := fun i => 7 ≤ i → Ru (d + 3) kMo_best 39 [xO 9 r, xI m, xI w, xI (bl c (i - 7).toNat), xI i] [] N Q) (fun i hi ih i0 => ?_) 7 (by omega) (by decide)
  have hb := bl_b c (i - 7).toNat
  have eb : N (r + 32) (bl c (i - 7).toNat) = sl c (bl c (i - 7).toNat).toNat 0 := by
    have e9 := hC.2 0 (bl c (i - 7).toNat) (by decide) (by decide) (by omega) (by omega)
    rw [show 17 * 0 + bl c (i - 7).toNat = bl c (i - 7).toNat by omega, FR_y (sl_0 hc (by omega) (by omega))] at e9
    exact e9
  refine vMo_best_39 ⟨fun q => ?_, fun q => ⟨by omega, by omega, ?_⟩⟩
  · have ei : i - 7 = m - 6 := by omega
    rw [ei] at eb hb ⊢
    refine ⟨fun q2 => qMo_stridesOf hc hC (by omega) (by omega) (fun y hy => vMo_best_93 (h2 a1 a2 (by omega) N y hf hy)), fun q2 => ⟨by omega, vMo_best_93 ?_⟩⟩
    rw [eb]
    exact h1 a1 a2 (Classical.not_not.mp q2) N hf
  · have ei : N (r + 32) i = sl c i.toNat 0 := by
      have e9 := hC.2 0 i (by decide) (by decide) (by omega) (by omega)
      rw [show 17 * 0 + i = i by omega, FR_y (sl_0 hc (by omega) (by omega))] at e9
      exact e9
    have ih' := ih (i + 1) (by omega) (by omega) (by omega)
    rw [bl_t i0] at ih'
    rw [eb, ei, z32_id (by omega) (by omega)]
    refine ⟨fun q2 => ?_, fun q2 => ?_⟩
    · rw [if_neg (by omega)] at ih'; exact ih'
    · rw [if_pos (by omega)] at ih'; exact ih'

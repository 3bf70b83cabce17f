/-! WHAT STRIDES COST: the class. -/
def FE (x : Int) : Int := if x = -1 then 1152921504606846976 else x
def FR (x : Int) : Int := if x = -1 then 1000000000 else x
def RY (y x : Int) : Prop := (x = -1 → 1152921504606846976 ≤ y) ∧ (¬ x = -1 → y = x)
theorem FE_no : FE (-1) = 1152921504606846976 := rfl
theorem FE_y {x : Int} (h : ¬ x = -1) : FE x = x := if_neg h
theorem FR_y {x : Int} (h : ¬ x = -1) : FR x = x := if_neg h
theorem FE_mn {A X y : Int} (h : RY y X) (hA : A = -1 ∨ (0 ≤ A ∧ A ≤ 1000000)) (hX : X = -1 ∨ (0 ≤ X ∧ X ≤ 1000000)) : mn (FE A) y = FE (mE A X) := by
  unfold mn mE
  by_cases e : X = -1
  · rw [if_pos e]
    have := h.1 e
    refine if_neg ?_
    unfold FE
    split <;> omega
  · rw [if_neg e]
    have e2 := h.2 e
    by_cases e3 : A = -1
    · rw [if_pos e3, e3, FE_no, FE_y e, if_pos (by omega), e2]
    · rw [if_neg e3, FE_y e3, e2]
      by_cases e4 : X < A
      · rw [if_pos e4, FE_y e]
      · rw [if_neg e4, FE_y e3]
theorem lshl_c {c s : Int} (h0 : 0 ≤ c) (h1 : c ≤ 120) (s0 : 2 ≤ s) (s1 : s ≤ 6) : lshl c s = c * 2 ^ s.toNat := by
  have h := c_p2 h0 h1 s0 s1
  have e : s = (s.toNat : Int) := by omega
  have e2 : lshl c (s.toNat : Int) = z64 (c * 2 ^ s.toNat) := lshl_eq (by omega)
  rw [← e] at e2
  rw [e2, z64_id (by omega) (by omega)]
theorem qCosts_slotsWith {d : Nat} {M : xM} {Q : xQ} {c : Int → Int} {p b l s : Int} (hc : cLo c) (hrow : ∀ j : Int, 0 ≤ j → j ≤ 32 → M (p + 2) j = p + 3 + j) (hN : b < 32 → M (p + 1) b = c b) (b0 : 0 ≤ b) (b1 : b ≤ 32) (l0 : 1 ≤ l) (l1 : l ≤ 16) (s0 : 2 ≤ s) (s1 : s ≤ 6) (he : b + s ≤ 32 → M (p + 3 + (b + s)) (l - 1) = FE (sl c (l - 1).toNat (b + s))) (h : ∀ y : Int, RY y (sw5 c (sl c (l - 1).toNat) b s) → Q (xL y) M) : Ru d kCosts_slotsWith 0 [xO 0 p, xI b, xI l, xI s, xU] [] M Q := by
  refine vCosts_slotsWith_0 ⟨fun q => by omega, fun q => ?_⟩
  rw [z32_id (x := b + s) (by omega) (by omega), z32_id (x := l - 1) (by omega) (by omega)]
  refine ⟨fun q2 => ?_, fun q2 => ⟨fun q3 => by omega, fun q3 => ⟨fun q4 => ⟨by omega, by omega, by omega, ?_⟩, fun q4 => by omega⟩⟩⟩
  · refine h _ ⟨fun _ => Int.le_refl _, fun z => absurd ?_ z⟩
    unfold sw5
    rw [if_pos q2]
  · rw [hrow (b + s) (by omega) (by omega), he (by omega), hN (by omega), lshl_c (hc b).1 (hc b).2 s0 s1]
    have h1 := c_p2 (hc b).1 (hc b).2 s0 s1
    have h2 := sl_b hc (l - 1).toNat (b + s)
    refine h _ ?_
    unfold sw5 FE RY
    rw [if_neg q2]
    by_cases e : sl c (l - 1).toNat (b + s) = -1
    · rw [if_pos e, if_pos e, z64_id (by omega) (by omega)]
      exact ⟨fun _ => by omega, fun z => absurd rfl z⟩
    · rw [if_neg e, if_neg e, z64_id (by omega) (by omega)]
      exact ⟨fun z => by omega, fun z => rfl⟩
theorem bs5_t {c g : Int → Int} {b s : Int} (s0 : 2 ≤ s) : bs5 c g b (s + 1 - 2).toNat = mE (bs5 c g b (s - 2).toNat) (sw5 c g b s) := by
  rw [show (s + 1 - 2).toNat = (s - 2).toNat + 1 by omega]
  show mE (bs5 c g b (s - 2).toNat) (sw5 c g b ((s - 2).toNat + 2)) = _
  rw [show (((s - 2).toNat : Nat) : Int) + 2 = s by omega]
theorem qCosts_fewestSlots {d : Nat} {M : xM} {Q : xQ} {c : Int → Int} {p b l : Int} (hc : cLo c) (hrow : ∀ j : Int, 0 ≤ j → j ≤ 32 → M (p + 2) j = p + 3 + j) (hN : b < 32 → M (p + 1) b = c b) (b0 : 0 ≤ b) (b1 : b ≤ 32) (l0 : 1 ≤ l) (l1 : l ≤ 16) (he : ∀ s : Int, 2 ≤ s → b + s ≤ 32 → M (p + 3 + (b + s)) (l - 1) = FE (sl c (l - 1).toNat (b + s))) (h : Q (xL (FE (sl c l.toNat b))) M) : Ru (d + 1) kCosts_fewestSlots 0 [xO 0 p, xI b, xI l, xU, xU, xU] [] M Q := by
  have hsb := sl_b hc (l - 1).toNat
  have hsb2 : ∀ x : Int, sl c (l - 1).toNat x = -1 ∨ (0 ≤ sl c (l - 1).toNat x ∧ sl c (l - 1).toNat x ≤ 122880) := fun x => by rcases hsb x with e | e <;> omega
  have el : l.toNat = (l - 1).toNat + 1 := by omega
  refine vCosts_fewestSlots_0 ?_
  rw [← show FE (bs5 c (sl c (l - 1).toNat) b (2 - 2 : Int).toNat) = 1152921504606846976 from rfl]
  refine loop_up 7 (P := fun s => 2 ≤ s → Ru (d + 1) kCosts_fewestSlots 7 [xO 0 p, xI b, xI l, xL (FE (bs5 c (sl c (l - 1).toNat) b (s - 2).toNat)), xU, xI s] [] M Q) (fun s hs ih s0 => ?_) 2 (by decide) (by decide)
  refine vCosts_fewestSlots_7 ⟨fun q => ?_, fun q => ?_⟩
  · have es : s = 7 := by omega
    subst es
    rw [el] at h
    exact h
  · refine qCosts_slotsWith hc hrow hN b0 b1 l0 l1 s0 (by omega) (he s s0) (fun y hy => vCosts_fewestSlots_23 ?_)
    have h1 := bs5_b (b := b) hc hsb2 (s - 2).toNat (by omega)
    have h2 := sw5_b (b := b) hc hsb2 s0 (by omega)
    rw [FE_mn hy (by omega) (by omega), ← bs5_t s0, z32_id (by omega) (by omega)]
    exact ih (s + 1) (by omega) (by omega) (by omega)
def CS (M : xM) (p : Int) (c : Int → Int) : Prop := (∀ j : Int, 0 ≤ j → j ≤ 32 → M (p + 2) j = p + 3 + j) ∧ (∀ b : Int, 0 ≤ b → b < 32 → M (p + 1) b = c b) ∧ ∀ b l : Int, 0 ≤ b → b ≤ 32 → 0 ≤ l → l ≤ 16 → M (p + 3 + b) l = FE (sl c l.toNat b)
theorem nA_lo {F : Int → Int} {m : Int} (hm : m ≤ 121) : cLo (nA F m) := fun _ => nA_b hm
theorem qCosts_weigh {d : Nat} {M : xM} {Q : xQ} {T : TB} {p p2 : Int} (hS : SR M p2 T) (hrow : ∀ j : Int, 0 ≤ j → j ≤ 32 → M (p + 2) j = p + 3 + j) (hap : p + 35 < p2 ∨ p2 + 7 < p) (h : ∀ N : xM, CS N p (nA (M (p2 + 1)) (M p2 0)) → (∀ b j : Int, ¬ (b = p + 1 ∨ (p + 3 ≤ b ∧ b ≤ p + 35)) → N b j = M b j) → Q xU N) : Ru (d + 2) kCosts_weigh 0 [xO 0 p, xO 5 p2, xU, xU] [] M Q := by
  have hm := hS.2.1
  have hc : cLo (nA (M (p2 + 1)) (M p2 0)) := nA_lo hm
  refine vCosts_weigh_0 (loop_up 32 (P := fun i => ∀ N : xM, 0 ≤ i → (∀ j : Int, 0 ≤ j → j < i → N (p + 1) j = bn (M (p2 + 1)) (wd j) (M p2 0 - 1).toNat) → (∀ b j : Int, ¬ b = p + 1 → N b j = M b j) → Ru (d + 2) kCosts_weigh 2 [xO 0 p, xO 5 p2, xI i, xU] [] N Q) (fun i hi ih N i0 hN hf => ?_) 0 (by decide) M (by decide) (fun j j0 j1 => by omega) (fun _ _ _ => rfl))
  refine vCosts_weigh_2 ⟨fun q => ⟨by decide, ?_⟩, fun q => ?_⟩
  · have ei : i = 32 := by omega
    subst ei
    generalize hc2 : nA (M (p2 + 1)) (M p2 0) = c at h hc
    have k1 : ∀ b : Int, 0 ≤ b → b < 32 → up N (p + 1) 0 1 (p + 1) b = c b := fun b b0 b1 => by
      rw [← hc2]
      unfold nA
      by_cases e : b = 0
      · rw [if_pos e, e, up_same]
      · rw [if_neg e, up_off e]; exact hN b b0 b1
    refine loop_dn (-1) (P := fun i => ∀ (N2 : xM) (w : xV), i ≤ 32 → (∀ b : Int, 0 ≤ b → b < 32 → N2 (p + 1) b = c b) → (∀ b l : Int, i < b → b ≤ 32 → 0 ≤ l → l ≤ 16 → N2 (p + 3 + b) l = FE (sl c l.toNat b)) → (∀ b j : Int, ¬ (b = p + 1 ∨ (p + 3 ≤ b ∧ b ≤ p + 35)) → N2 b j = M b j) → Ru (d + 2) kCosts_weigh 35 [xO 0 p, xO 5 p2, xI i, w] [] N2 Q) (fun i hi ih2 N2 w i1 hn hs hf2 => ?_) 32 (by decide) _ _ (Int.le_refl _) k1 (fun b l b0 b1 => by omega) (fun b j hb => by rw [up_un (by omega)]; exact hf b j (by omega))
    have row2 : ∀ j : Int, 0 ≤ j → j ≤ 32 → N2 (p + 2) j = p + 3 + j := fun j j0 j1 => by rw [hf2 _ _ (by omega)]; exact hrow j j0 j1
    refine vCosts_weigh_35 ⟨fun q2 => ?_, fun q2 => ⟨by omega, ?_⟩⟩
    · have ei : i = -1 := by omega
      subst ei
      exact h N2 ⟨row2, hn, fun b l b0 b1 l0 l1 => hs b l (by omega) b1 l0 l1⟩ hf2
    · have step : ∀ x : Int, x = FE (sl c 0 i) → Ru (d + 2) kCosts_weigh 62 [xO 0 p, xO 5 p2, xI i, xI 1] [] (up N2 (N2 (p + 2) i) 0 x) Q := fun x hx => by
        rw [row2 i (by omega) i1]
        refine loop_up 17 (P := fun l => ∀ N3 : xM, 1 ≤ l → (∀ b : Int, 0 ≤ b → b < 32 → N3 (p + 1) b = c b) → (∀ b l : Int, i < b → b ≤ 32 → 0 ≤ l → l ≤ 16 → N3 (p + 3 + b) l = FE (sl c l.toNat b)) → (∀ k : Int, 0 ≤ k → k < l → N3 (p + 3 + i) k = FE (sl c k.toNat i)) → (∀ b j : Int, ¬ (b = p + 1 ∨ (p + 3 ≤ b ∧ b ≤ p + 35)) → N3 b j = M b j) → Ru (d + 2) kCosts_weigh 62 [xO 0 p, xO 5 p2, xI i, xI l] [] N3 Q) (fun l hl ih3 N3 l0 hn3 hs3 hr3 hf3 => ?_) 1 (by decide) _ (by decide) (fun b b0 b1 => by rw [up_un (by omega)]; exact hn b b0 b1) (fun b l b0 b1 l0 l1 => by rw [up_un (by omega)]; exact hs b l b0 b1 l0 l1) (fun k k0 k1 => by rw [show k = 0 by omega, up_same]; exact hx) (fun b j hb => by rw [up_un (by omega)]; exact hf2 b j hb)
        refine vCosts_weigh_62 ⟨fun q3 => ?_, fun q3 => ⟨by omega, ?_⟩⟩
        · rw [z32_id (by omega) (by omega)]
          refine ih2 (i + -1) (by omega) (by omega) N3 _ (by omega) hn3 (fun b k b0 b1 k0 k1 => ?_) hf3
          by_cases e : b = i
          · rw [e]; exact hr3 k k0 (by omega)
          · exact hs3 b k (by omega) b1 k0 k1
        · have row3 : ∀ j : Int, 0 ≤ j → j ≤ 32 → N3 (p + 2) j = p + 3 + j := fun j j0 j1 => by rw [hf3 _ _ (by omega)]; exact hrow j j0 j1
          refine qCosts_fewestSlots hc row3 (fun z => hn3 i (by omega) z) (by omega) i1 l0 (by omega) (fun s s0 s1 => hs3 (i + s) (l - 1) (by omega) s1 (by omega) (by omega)) (vCosts_weigh_81 ⟨by omega, ?_⟩)
          rw [row3 i (by omega) i1, z32_id (by omega) (by omega)]
          refine ih3 (l + 1) (by omega) (by omega) _ (by omega) (fun b b0 b1 => by rw [up_un (by omega)]; exact hn3 b b0 b1) (fun b l b0 b1 l0 l1 => by rw [up_un (by omega)]; exact hs3 b l b0 b1 l0 l1) (fun k k0 k1 => ?_) (fun b j hb => by rw [up_un (by omega)]; exact hf3 b j hb)
          by_cases e : k = l
          · rw [e, up_same]
          · rw [up_off e]; exact hr3 k k0 (by omega)
      refine ⟨fun q3 => ⟨by decide, step _ ?_⟩, fun q3 => ⟨by decide, step _ ?_⟩⟩
      · show _ = FE (if i = 32 then 0 else -1)
        rw [if_neg q3]; rfl
      · show _ = FE (if i = 32 then 0 else -1)
        rw [if_pos (Classical.not_not.mp q3)]; rfl
  · have hS2 : SR N p2 T := SR_fr hS (fun b j b0 b1 => hf b j (by omega))
    refine qCosts_partedBeginnings hS2 i0 (by omega) (vCosts_weigh_18 ⟨by omega, ?_⟩)
    rw [z32_id (by omega) (by omega), hf p2 0 (by omega), show N (p2 + 1) = M (p2 + 1) from funext fun j => hf _ _ (by omega)]
    refine ih (i + 1) (by omega) (by omega) _ (by omega) (fun j j0 j1 => ?_) (fun b j hb => by rw [up_un (by omega)]; exact hf b j hb)
    by_cases e : j = i
    · rw [e, up_same]
    · rw [up_off e]; exact hN j j0 (by omega)
theorem qCosts_slotsBy {d : Nat} {M : xM} {Q : xQ} {c : Int → Int} {p l : Int} (hC : CS M p c) (l0 : 0 ≤ l) (l1 : l ≤ 16) (h : Q (xL (FE (sl c l.toNat 0))) M) : Ru d kCosts_slotsBy 0 [xO 0 p, xI l] [] M Q := by
  refine vCosts_slotsBy_0 ⟨fun q => by omega, fun q => ⟨fun q => by omega, fun q => ⟨by decide, by omega, ?_⟩⟩⟩
  rw [hC.1 0 (by decide) (by decide), hC.2.2 0 l (by decide) (by decide) l0 l1]
  exact h
theorem sl_0 {c : Int → Int} (hc : cLo c) {l : Int} (l0 : 6 ≤ l) (l1 : l ≤ 16) : ¬ sl c l.toNat 0 = -1 := fun h => (sl_fin hc l.toNat 0 (by decide)).mp h (by omega)
theorem bl_t {c : Int → Int} {i : Int} (i0 : 7 ≤ i) : bl c (i + 1 - 7).toNat = if sl c i.toNat 0 < sl c (bl c (i - 7).toNat).toNat 0 then i else bl c (i - 7).toNat := by
  rw [show (i + 1 - 7).toNat = (i - 7).toNat + 1 by omega]
  show (if sl c ((i - 7).toNat + 7) 0 < sl c (bl c (i - 7).toNat).toNat 0 then (((i - 7).toNat : Nat) : Int) + 7 else bl c (i - 7).toNat) = _
  rw [show (i - 7).toNat + 7 = i.toNat by omega, show (((i - 7).toNat : Nat) : Int) + 7 = i by omega]
theorem qCosts_bestLevels {d : Nat} {M : xM} {Q : xQ} {c : Int → Int} {p m : Int} (hc : cLo c) (hC : CS M p c) (m0 : 6 ≤ m) (m1 : m ≤ 16) (h : Q (xI (bl c (m - 6).toNat)) M) : Ru (d + 1) kCosts_bestLevels 0 [xO 0 p, xI m, xU, xU] [] M Q := by
  refine vCosts_bestLevels_0 (vCosts_bestLevels_6 ⟨fun q => by omega, fun q => qCosts_slotsBy hC (by decide) (by decide) (vCosts_bestLevels_16 (qCosts_slotsBy hC (by decide) (by decide) (vCosts_bestLevels_21 ⟨fun _ => ?_, fun z => absurd (Int.le_refl _) z⟩)))⟩)
  rw [z32_id (by decide) (by decide)]
  refine loop_up (m + 1) (P := fun i => 7 ≤ i → Ru (d + 1) kCosts_bestLevels 6 [xO 0 p, xI m, xI (bl c (i - 7).toNat), xI i] [] M Q) (fun i hi ih i0 => ?_) 7 (by omega) (by decide)
  have hb := bl_b c (i - 7).toNat
  refine vCosts_bestLevels_6 ⟨fun q => ?_, fun q => qCosts_slotsBy hC (by omega) (by omega) (vCosts_bestLevels_16 (qCosts_slotsBy hC (by omega) (by omega) (vCosts_bestLevels_21 ?_)))⟩
  · rw [show i - 7 = m - 6 by omega]
    exact h
  · rw [FE_y (sl_0 hc (by omega) (by omega)), FE_y (sl_0 hc (by omega) (by omega)), z32_id (by omega) (by omega)]
    have ih' := ih (i + 1) (by omega) (by omega) (by omega)
    rw [bl_t i0] at ih'
    refine ⟨fun q2 => ?_, fun q2 => ?_⟩
    · rw [if_neg (by omega)] at ih'; exact ih'
    · rw [if_pos (by omega)] at ih'; exact ih'
theorem RY_eq {y X Z : Int} (h : RY y X) (hZ : ¬ Z = -1) (hZ2 : Z ≤ 1000000) : y = Z ↔ X = Z := by
  by_cases e : X = -1
  · have := h.1 e
    omega
  · rw [h.2 e]
theorem qCosts_digitsBy {d : Nat} {M : xM} {Q : xQ} {c : Int → Int} {p l : Int} (hc : cLo c) (hC : CS M p c) (l0 : 6 ≤ l) (l1 : l ≤ 16) (h : ∀ y : Int, isDg c l.toNat 0 0 y → Q (xL y) M) : Ru (d + 2) kCosts_digitsBy 0 [xO 0 p, xI l, xU, xU, xU, xU, xU] [] M Q := by
  have hf0 := sl_0 hc l0 l1
  refine vCosts_digitsBy_0 (loop_dn 0 (P := fun k => ∀ (b x : Int) (w : xV), k ≤ 16 → 0 ≤ b → b ≤ 32 → ¬ sl c k.toNat b = -1 → (∀ y : Int, isDg c k.toNat b x y → Q (xL y) M) → Ru (d + 2) kCosts_digitsBy 8 [xO 0 p, xI l, xL x, xU, xI b, xI k, w] [] M Q) (fun k hk ih b x w k1 b0 b1 hf hq => ?_) l (by omega) 0 0 _ l1 (by decide) (by decide) hf0 h)
  refine vCosts_digitsBy_8 ⟨fun q => ?_, fun q => ?_⟩
  · refine hq x ?_
    rw [show k = 0 by omega]
    rfl
  · have ek : k.toNat = (k - 1).toNat + 1 := by omega
    rw [ek] at hf
    have hsb2 := sl_b hc ((k - 1).toNat + 1) b
    obtain ⟨s9, s90, s91, s92⟩ := bs5_at 5 hf
    have go : ∀ s : Int, isSt c (k - 1).toNat b s → Ru (d + 2) kCosts_digitsBy 51 [xO 0 p, xI l, xL x, xU, xI b, xI k, xI s] [] M Q := fun s hs => by
      have hs2 : ¬ sw5 c (sl c (k - 1).toNat) b s = -1 := by rw [hs.2.1]; exact hf
      have hs3 : ¬ 32 < b + s := fun z => hs2 (by unfold sw5; rw [if_pos z])
      have hs4 : ¬ sl c (k - 1).toNat (b + s) = -1 := fun z => hs2 (by unfold sw5; rw [if_neg hs3, if_pos z])
      have hs1 := hs.1
      refine vCosts_digitsBy_51 ?_
      rw [z32_id (x := b + s) (by omega) (by omega), z32_id (x := k + -1) (by omega) (by omega)]
      refine ih (k + -1) (by omega) (by omega) _ _ _ (by omega) (by omega) (by omega) hs4 (fun y hy => hq y ?_)
      rw [ek]
      exact ⟨s, hs, hy⟩
    refine loop_up 6 (P := fun s => 2 ≤ s → (∀ j : Int, 2 ≤ j → j < s → ¬ sw5 c (sl c (k - 1).toNat) b j = sl c ((k - 1).toNat + 1) b) → Ru (d + 2) kCosts_digitsBy 16 [xO 0 p, xI l, xL x, xU, xI b, xI k, xI s] [] M Q) (fun s hs ihs s0 hno => ?_) 2 (by decide) (by decide) (fun j j0 j1 => by omega)
    refine vCosts_digitsBy_16 ⟨fun q2 => ?_, fun q2 => ?_⟩
    · refine go s ⟨by omega, ?_, hno⟩
      have e9 : s9 = s := by
        rcases (show s9 < s ∨ s9 = s by omega) with e | e
        · exact absurd s92 (hno s9 s90 e)
        · exact e
      rw [← e9]; exact s92
    · refine qCosts_slotsWith hc hC.1 (fun z => hC.2.1 b b0 z) b0 b1 (by omega) k1 s0 (by omega) (fun z => hC.2.2 _ _ (by omega) z (by omega) (by omega)) (fun y hy => vCosts_digitsBy_33 (qCosts_fewestSlots hc hC.1 (fun z => hC.2.1 b b0 z) b0 b1 (by omega) k1 (fun s s0 z => hC.2.2 _ _ (by omega) z (by omega) (by omega)) (vCosts_digitsBy_41 ?_)))
      rw [ek, FE_y hf, z32_id (by omega) (by omega)]
      have hy2 := RY_eq hy hf (by omega)
      refine ⟨fun q3 => go s ⟨by omega, hy2.mp q3, hno⟩, fun q3 => ihs (s + 1) (by omega) (by omega) (by omega) (fun j j0 j1 => ?_)⟩
      by_cases e : j = s
      · rw [e]; exact fun z => q3 (hy2.mpr z)
      · exact hno j j0 (by omega)

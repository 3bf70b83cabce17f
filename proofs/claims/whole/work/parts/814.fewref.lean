/-! THE FEWEST RULES: the reference; hops of codes. -/
section FewRef
variable {T : TB} {M : xM} {Q : xQ} {r : Int}
theorem hop_of (hw : tWF T) {a g : Int} (g0 : 0 ≤ g) (hc : ¬ cod T a = -1) (e : tK T g = cod T a) : g = hp T a := by
  have h1 := hp_in hw a
  have h2 := cod_hp hw a
  unfold hk at h2
  have h3 : ¬ hp T a = -1 := fun z => by rw [if_pos z] at h2; exact hc h2
  rw [if_neg h3] at h2
  have u1 := h1.2.2 (by omega)
  have g1 : g < 60 := by
    refine Classical.byContradiction fun z => hc ?_
    rw [← e, tK_out (by omega)]
  have u2 : 0 < tU T g := by
    refine Classical.byContradiction fun z => hc ?_
    rw [← e, tK_0 (by have := tU_nn T g; omega)]
  rw [h2, tK_pos g0 g1 u2, tK_pos (by omega) (by omega) u1] at e
  exact hw.2.2.2.2.1 g (hp T a) g0 g1 (by omega) (by omega) u2 u1 e
theorem hp_no (hw : tWF T) {a : Int} (hc : cod T a = -1) : hp T a = -1 := by
  have h1 := hp_in hw a
  have h2 := cod_hp hw a
  unfold hk at h2
  refine Classical.byContradiction fun z => ?_
  rw [if_neg z] at h2
  have u1 := h1.2.2 (by omega)
  rw [tK_pos (by omega) (by omega) u1] at h2
  have := hw.2.2.2.1 (hp T a) (by omega) (by omega) u1
  omega
theorem qMo_hopBy {d : Nat} {a : Int} (hw : tWF T) (hT : RN M (r + 1) T (tK T)) (h : Q (xI (hp T a)) M) : Ru (d + 1) kMo_hopBy 0 [xO 9 r, xI (cod T a)] [] M Q := by
  refine vMo_hopBy_0 ⟨fun q => ?_, fun q => ?_⟩
  · refine qMo_hopOf hT.2.2.2.1 (fun g g0 g1 g2 g3 => vMo_hopBy_14 ?_) (fun z => ?_)
    · rw [hop_of hw g0 q g2]; exact h
    · have h1 := hp_in hw a
      have h2 := cod_hp hw a
      unfold hk at h2
      have h3 : ¬ hp T a = -1 := fun z => by rw [if_pos z] at h2; exact q h2
      rw [if_neg h3] at h2
      exact absurd h2.symm (z (hp T a) (by omega) (by omega))
  · rw [hp_no hw (Classical.not_not.mp q)] at h
    exact vMo_hopBy_14 h
theorem qMo_hopAt {d : Nat} {a : Int} (hw : tWF T) (hT : RN M (r + 1) T (tK T)) (hR : RW M r 0 T) (a0 : 0 ≤ a) (a1 : a < 4294967296) (h : Q (xI (hp T a)) M) : Ru (d + 2) kMo_hopAt 0 [xO 9 r, xL a, xU, xU] [] M Q := by
  refine vMo_hopAt_0 (qMo_codeAt hR (Or.inl rfl) a0 a1 (vMo_hopAt_6 ⟨fun q => ?_, fun q => ?_⟩))
  · refine qMo_hopOf hT.2.2.2.1 (fun g g0 g1 g2 g3 => vMo_hopAt_21 ?_) (fun z => ?_)
    · rw [hop_of hw g0 q g2]; exact h
    · have h1 := hp_in hw a
      have h2 := cod_hp hw a
      unfold hk at h2
      have h3 : ¬ hp T a = -1 := fun z => by rw [if_pos z] at h2; exact q h2
      rw [if_neg h3] at h2
      exact absurd h2.symm (z (hp T a) (by omega) (by omega))
  · rw [hp_no hw (Classical.not_not.mp q)] at h
    exact vMo_hopAt_21 h
theorem qMo_ownSet {d : Nat} {a : Int} (hw : tWF T) (hT : RN M (r + 1) T (tK T)) (hR : RW M r 0 T) (a0 : 0 ≤ a) (a1 : a < 4294967296) (h : Q (xL (lshl 1 (hp T a + 1))) M) : Ru (d + 3) kMo_ownSet 0 [xO 9 r, xL a, xU] [] M Q := by
  have hb := hp_b hw a
  refine vMo_ownSet_0 (qMo_hopAt hw hT hR a0 a1 (vMo_ownSet_6 ?_))
  rw [z32_id (by omega) (by omega)]
  exact h
theorem qMo_setOf (hw : tWF T) (hT : RN M (r + 1) T (tK T)) (hR : RW M r 0 T) : ∀ (k : Nat) (d : Nat) (Q : xQ) (v : Int), k ≤ 32 → 0 ≤ v → v + 2 ^ k ≤ 4294967296 → Q (xL (fS T k v)) M → Ru (d + k + 4) kMo_setOf 0 [xO 9 r, xL v, xU, xI (32 - (k : Int)), xU, xU, xU, xU] [] M Q := by
  intro k
  induction k with
  | zero =>
    intro d Q v hk v0 v1 h
    have hwk := wd_k (k := 0) (L := 32 - ((0 : Nat) : Int)) rfl
    rw [show (2 : Int) ^ 0 = 1 from rfl] at v1 hwk
    refine vMo_setOf_0 (qMo_sizeOf (by omega) (by omega) (vMo_setOf_7 ?_))
    rw [hwk]
    refine qMo_isOne hR (Or.inl rfl) v0 (by decide) (by omega) (fun _ => vMo_setOf_10 ⟨fun z => absurd z (by decide), fun _ => ?_⟩) (fun z => absurd (lfb_yl (lfb_0 (T := T) (v := v))) z)
    exact qMo_ownSet hw hT hR v0 (by omega) (vMo_setOf_18 h)
  | succ k ih =>
    intro d Q v hk v0 v1 h
    obtain ⟨p1, p2'⟩ := two_s k
    have hwk := wd_k (k := k + 1) (L := 32 - ((k + 1 : Nat) : Int)) rfl
    rw [show d + (k + 1) + 4 = (d + k + 4) + 1 by omega]
    refine vMo_setOf_0 (qMo_sizeOf (by omega) (by omega) (vMo_setOf_7 ?_))
    rw [hwk]
    refine qMo_isOne hR (Or.inl rfl) v0 (by omega) v1 (fun z => vMo_setOf_10 ⟨fun z => absurd z (by decide), fun _ => ?_⟩) (fun z => vMo_setOf_10 ⟨fun _ => ?_, fun z2 => absurd rfl z2⟩)
    · rw [fS_leaf (lfb_t z)] at h
      exact qMo_ownSet hw hT hR v0 (by omega) (vMo_setOf_18 h)
    · rw [z32_id (x := 32 - ((k + 1 : Nat) : Int) + 1) (by omega) (by omega), show 32 - ((k + 1 : Nat) : Int) + 1 = 32 - (k : Int) by omega]
      refine ih d _ v (by omega) v0 (by omega) (vMo_setOf_27 ?_)
      rw [z32_id (x := 32 - ((k + 1 : Nat) : Int) + 1) (by omega) (by omega), show 32 - ((k + 1 : Nat) : Int) + 1 = 32 - (k : Int) by omega]
      refine qMo_sizeOf (by omega) (by omega) (vMo_setOf_37 ?_)
      rw [wd_k (k := k) rfl, z64_id (x := v + 2 ^ k) (by omega) (by omega), z32_id (x := 32 - ((k + 1 : Nat) : Int) + 1) (by omega) (by omega), show 32 - ((k + 1 : Nat) : Int) + 1 = 32 - (k : Int) by omega]
      refine ih d _ (v + 2 ^ k) (by omega) (by omega) (by omega) (vMo_setOf_44 ⟨fun q => ?_, fun q => ?_⟩)
      · rw [fS_or (lfb_f z) q] at h; exact h
      · rw [fS_and (lfb_f z) q] at h; exact h
theorem RN_frc {M N : xM} {c : Int} {K : Int → Int} (h : RN M c T K) (e : ∀ j : Int, N c j = M c j) : RN N c T K := RN_fr h e
theorem qMo_hands (hw : tWF T) : ∀ (k : Nat) (d : Nat) (M : xM) (Q : xQ) (v x s : Int), k ≤ 32 → 0 ≤ v → v + 2 ^ k ≤ 4294967296 → -1 ≤ x → x ≤ 59 → RN M (r + 1) T (tK T) → RW M r 0 T → M r 46 = s → 0 ≤ s → s + (fL T k v x).length ≤ 60 → (∀ N : xM, N r 46 = s + (fL T k v x).length → arrL (N (r + 28)) (N (r + 29)) (N (r + 30)) s (fL T k v x) → (∀ b j : Int, ¬ (b = r ∧ j = 46) → ¬ ((b = r + 28 ∨ b = r + 29 ∨ b = r + 30) ∧ s ≤ j) → N b j = M b j) → Q xU N) → Ru (d + 2 * k + 5) kMo_hands 0 [xO 9 r, xL v, xU, xI (32 - (k : Int)), xI x, xU, xU, xU] [] M Q := by
  have head : ∀ (k d : Nat) (M : xM) (Q : xQ) (v x s : Int), k ≤ 32 → 0 ≤ v → v + 2 ^ k ≤ 4294967296 → -1 ≤ x → x ≤ 59 → RN M (r + 1) T (tK T) → RW M r 0 T → M r 46 = s → 0 ≤ s → s + (fA T k v x).length ≤ 60 → (∀ N : xM, N r 46 = s + (fA T k v x).length → arrL (N (r + 28)) (N (r + 29)) (N (r + 30)) s (fA T k v x) → (∀ b j : Int, ¬ (b = r ∧ j = 46) → ¬ ((b = r + 28 ∨ b = r + 29 ∨ b = r + 30) ∧ s ≤ j) → N b j = M b j) → (lfp T v (2 ^ k) → Q xU N) ∧ (¬ lfp T v (2 ^ k) → Ru (d + k + 4) kMo_hands 0 [xO 9 r, xL v, xU, xI (z32 (32 - (k : Int) + 1)), xI (fO T k v x), xU, xU, xU] [] N (fun _ N => Ru (d + k + 5) kMo_hands 98 [xO 9 r, xL v, xU, xI (32 - (k : Int)), xI x, xL (fS T k v), xU, xI (fO T k v x)] [] N Q))) → Ru (d + k + 5) kMo_hands 0 [xO 9 r, xL v, xU, xI (32 - (k : Int)), xI x, xU, xU, xU] [] M Q := by
    intro k d M Q v x s hk v0 v1 x0 x1 hT hR es s0 s1 h
    have p2' := (two_s k).2
    have hwk := wd_k (k := k) (L := 32 - (k : Int)) rfl
    -- behind the first rule
    have back : ∀ N : xM, N r 46 = s + (fA T k v x).length → arrL (N (r + 28)) (N (r + 29)) (N (r + 30)) s (fA T k v x) → (∀ b j : Int, ¬ (b = r ∧ j = 46) → ¬ ((b = r + 28 ∨ b = r + 29 ∨ b = r + 30) ∧ s ≤ j) → N b j = M b j) → Ru (d + k + 5) kMo_hands 74 [xO 9 r, xL v, xU, xI (32 - (k : Int)), xI x, xL (fS T k v), xU, xI (fO T k v x)] [] N Q := fun N n46 nA nf => by
      have hR2 : RW N r 0 T := RW_fr hR (fun b j b0 b1 => nf b j (by omega) (by omega))
      obtain ⟨h1, h2⟩ := h N n46 nA nf
      refine vMo_hands_74 (qMo_sizeOf (by omega) (by omega) (vMo_hands_81 ?_))
      rw [hwk]
      exact qMo_isOne hR2 (Or.inl rfl) v0 p2' v1 (fun z => vMo_hands_84 ⟨fun z2 => absurd z2 (by decide), fun _ => h1 z⟩) (fun z => vMo_hands_84 ⟨fun _ => h2 z, fun z2 => absurd rfl z2⟩)
    refine vMo_hands_0 (qMo_setOf hw hT hR k d _ v hk v0 v1 (vMo_hands_6 ?_))
    rw [z32_id (x := x + 1) (by omega) (by omega)]
    have hbit : land (lshr (fS T k v) (x + 1)) 1 = 0 ↔ tb (fS T k v) (x + 1).toNat = false := by
      have := shr_bit (x := fS T k v) (s := (x + 1).toNat) (fS_in k v) (by omega)
      rw [show (((x + 1).toNat : Nat) : Int) = x + 1 by omega] at this
      exact this
    rw [hbit]
    refine ⟨fun q => ?_, fun q => ?_⟩
    · have hy : tb (fS T k v) (x + 1).toNat = true := by
        cases e : tb (fS T k v) (x + 1).toNat with
        | true => rfl
        | false => exact absurd e q
      obtain ⟨e1, e2⟩ := fA_in hy
      rw [e1, e2] at back
      exact back M (by show M r 46 = s + 0; omega) trivial (fun _ _ _ _ => rfl)
    · have hn : ¬ tb (fS T k v) (x + 1).toNat = true := fun z => q (by rw [z]; decide)
      obtain ⟨e1, e2⟩ := fA_out hn
      obtain ⟨l1, l2, l3⟩ := lw_b hw k v
      rw [e1] at s1
      have s2 : s + 1 ≤ 60 := s1
      refine qMo_leastOf (fS_in k v) l1 (vMo_hands_31 ?_)
      rw [e1, e2] at back
      simp (disch := omega) only [up_un]
      rw [es, z32_id (x := s + 1) (by omega) (by omega)]
      refine ⟨by omega, by omega, by omega, back _ up_same ⟨⟨?_, ?_, ?_⟩, trivial⟩ (fun b j hb1 hb2 => ?_)⟩
      · rw [up_un (by omega), up_un (by omega), up_un (by omega), up_same]
      · rw [up_un (by omega), up_un (by omega), up_same]
      · rw [up_un (by omega), up_same]
      · rw [up_un (by omega), up_un (by omega), up_un (by omega), up_un (by omega)]
  intro k
  induction k with
  | zero =>
    intro d M Q v x s hk v0 v1 x0 x1 hT hR es s0 s1 h
    exact head 0 d M Q v x s hk v0 v1 x0 x1 hT hR es s0 s1 (fun N n46 nA nf => ⟨fun _ => h N n46 nA nf, fun z => absurd (lfb_yl (lfb_0 (T := T) (v := v))) z⟩)
  | succ k ih =>
    intro d M Q v x s hk v0 v1 x0 x1 hT hR es s0 s1 h
    obtain ⟨p1, p2'⟩ := two_s k
    rw [show d + 2 * (k + 1) + 5 = (d + k + 1) + (k + 1) + 5 by omega]
    have hlen : (fA T (k + 1) v x).length ≤ (fL T (k + 1) v x).length := by
      show _ ≤ (fA T (k + 1) v x ++ _).length
      rw [List.length_append]; omega
    refine head (k + 1) (d + k + 1) M Q v x s hk v0 v1 x0 x1 hT hR es s0 (by omega) (fun N n46 nA nf => ⟨fun z => ?_, fun z => ?_⟩)
    · rw [fL_y (lfb_t z)] at h
      exact h N n46 nA nf
    · have hl := lfb_f z
      have hob := fO_b hw (k + 1) (v := v) x0 x1
      have eL := fL_n (x := x) hl
      rw [eL, List.length_append, List.length_append] at s1
      rw [eL, List.length_append, List.length_append] at h
      rw [z32_id (x := 32 - ((k + 1 : Nat) : Int) + 1) (by omega) (by omega), show 32 - ((k + 1 : Nat) : Int) + 1 = 32 - (k : Int) by omega, show d + k + 1 + (k + 1) + 4 = (d + 1) + 2 * k + 5 by omega]
      have hT2 : RN N (r + 1) T (tK T) := RN_fr hT (fun j => nf _ _ (by omega) (by omega))
      have hR2 : RW N r 0 T := RW_fr hR (fun b j b0 b1 => nf b j (by omega) (by omega))
      refine ih (d + 1) N _ v (fO T (k + 1) v x) (s + (fA T (k + 1) v x).length) (by omega) v0 (by omega) hob.1 hob.2 hT2 hR2 n46 (by omega) (by omega) (fun N1 a0 aA af => ?_)
      rw [show d + k + 1 + (k + 1) + 5 = ((d + 1) + 2 * k + 5) + 1 by omega]
      refine vMo_hands_98 ?_
      rw [z32_id (x := 32 - ((k + 1 : Nat) : Int) + 1) (by omega) (by omega), show 32 - ((k + 1 : Nat) : Int) + 1 = 32 - (k : Int) by omega]
      refine qMo_sizeOf (by omega) (by omega) (vMo_hands_106 ?_)
      rw [wd_k (k := k) rfl, z64_id (x := v + 2 ^ k) (by omega) (by omega), z32_id (x := 32 - ((k + 1 : Nat) : Int) + 1) (by omega) (by omega), show 32 - ((k + 1 : Nat) : Int) + 1 = 32 - (k : Int) by omega]
      have hT3 : RN N1 (r + 1) T (tK T) := RN_fr hT2 (fun j => af _ _ (by omega) (by omega))
      have hR3 : RW N1 r 0 T := RW_fr hR2 (fun b j b0 b1 => af b j (by omega) (by omega))
      refine ih (d + 1) N1 _ (v + 2 ^ k) (fO T (k + 1) v x) (s + (fA T (k + 1) v x).length + (fL T k v (fO T (k + 1) v x)).length) (by omega) (by omega) (by omega) hob.1 hob.2 hT3 hR3 a0 (by omega) (by omega) (fun N2 c0 cA cf => vMo_hands_115 ?_)
      refine h N2 (by rw [c0]; omega) (arrL_app _ _ _ ?_ (arrL_app _ _ _ ?_ ?_)) (fun b j hb1 hb2 => ?_)
      · exact arrL_fr _ _ (arrL_fr _ _ nA (fun j j0 j1 => ⟨af _ _ (by omega) (by omega), af _ _ (by omega) (by omega), af _ _ (by omega) (by omega)⟩)) (fun j j0 j1 => ⟨cf _ _ (by omega) (by omega), cf _ _ (by omega) (by omega), cf _ _ (by omega) (by omega)⟩)
      · exact arrL_fr _ _ aA (fun j j0 j1 => ⟨cf _ _ (by omega) (by omega), cf _ _ (by omega) (by omega), cf _ _ (by omega) (by omega)⟩)
      · exact cA
      · rw [cf b j hb1 (by omega), af b j hb1 (by omega), nf b j hb1 (by omega)]
def RFw (M : xM) (r : Int) (T : TB) : Prop := M r 46 = (fL T 32 0 (-1)).length ∧ arrL (M (r + 28)) (M (r + 29)) (M (r + 30)) 0 (fL T 32 0 (-1))
theorem qMo_laysFewest (hw : tWF T) {d : Nat} (hT : RN M (r + 1) T (tK T)) (hR : RW M r 0 T) (h : ∀ N : xM, RFw N r T → (∀ b j : Int, ¬ (b = r ∧ j = 46) → ¬ (r + 28 ≤ b ∧ b ≤ r + 30) → N b j = M b j) → Q xU N) : Ru (d + 70) kMo_laysFewest 0 [xO 9 r] [] M Q := by
  have e32 : (2 : Int) ^ 32 = 4294967296 := by decide
  have hlen := few_len hw
  have hn := hw.1
  refine vMo_laysFewest_0 (qMo_hands hw 32 d _ _ 0 (-1) 0 (Nat.le_refl _) (by decide) (by rw [e32]; decide) (by decide) (by decide) (RN_fr hT (fun j => up_un (by omega))) (RW_fr hR (fun b j b0 b1 => up_un (by omega))) up_same (by decide) (by omega) (fun N n46 nA nf => vMo_laysFewest_12 (h N ⟨by rw [n46]; omega, nA⟩ (fun b j hb1 hb2 => ?_))))
  rw [nf b j hb1 (by omega), up_un (by omega)]
end FewRef

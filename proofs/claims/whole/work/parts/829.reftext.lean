/-! THE TEXT IS READ in the reference; tables anew. -/
section TextRef
variable {d : Nat} {M : xM} {Q : xQ} {r : Int} {g : Int → Int} {z : Int}
theorem qMo_readsText (hT : RG M r g z) (h1 : ∀ N : xM, (txP g z 401 0 [] 0 (fun _ => 0)).1 = 0 → N r 40 = ((txP g z 401 0 [] 0 (fun _ => 0)).2.1.length : Int) → arrL (N (r + 23)) (N (r + 24)) (N (r + 25)) 0 (txP g z 401 0 [] 0 (fun _ => 0)).2.1 → N r 32 = (txP g z 401 0 [] 0 (fun _ => 0)).2.2.1 → (∀ i : Int, 0 ≤ i → i < (txP g z 401 0 [] 0 (fun _ => 0)).2.2.1 → N (r + 21) i = (txP g z 401 0 [] 0 (fun _ => 0)).2.2.2 i) → (∀ b j : Int, ¬ (b = r ∧ (j = 32 ∨ (36 ≤ j ∧ j ≤ 40))) → ¬ b = r + 21 → ¬ (r + 23 ≤ b ∧ b ≤ r + 25) → N b j = M b j) → Q (xI 1) N) (h0 : ∀ N : xM, ¬ (txP g z 401 0 [] 0 (fun _ => 0)).1 = 0 → N r 37 = (txP g z 401 0 [] 0 (fun _ => 0)).1 → (∀ b j : Int, ¬ (b = r ∧ (j = 32 ∨ (36 ≤ j ∧ j ≤ 40))) → ¬ b = r + 21 → ¬ (r + 23 ≤ b ∧ b ≤ r + 25) → N b j = M b j) → Q (xI 0) N) : Ru (d + 5) kMo_readsText 0 [xO 9 r, xU, xU] [] M Q := by
  have hz := hT.1.1
  generalize hX : txP g z 401 0 [] 0 (fun _ => 0) = X at h1 h0
  refine vMo_readsText_0 ?_
  have main : ∀ p : Int, p ≤ z → ∀ (N : xM) (l : List (Int × Int × Int)) (c : Int) (S : Int → Int) (f : Nat) (w2 : xV), 0 ≤ p → N r 36 = p → N r 40 = (l.length : Int) → 401 ≤ f + p → txP g z f p l c S = X → 7 * (l.length : Int) ≤ p → arrL (N (r + 23)) (N (r + 24)) (N (r + 25)) 0 l → N r 32 = c → (∀ i : Int, 0 ≤ i → i < c → N (r + 21) i = S i) → (∀ b j : Int, ¬ (b = r ∧ (j = 32 ∨ (36 ≤ j ∧ j ≤ 40))) → ¬ b = r + 21 → ¬ (r + 23 ≤ b ∧ b ≤ r + 25) → N b j = M b j) → Ru (d + 5) kMo_readsText 17 [xO 9 r, xI 1, w2] [] N Q := by
    refine loop_up z (fun p hp ih N l c S f w2 p0 e36 e40 hfu htx hl harr e32 hS hf => ?_)
    have hTN : RG N r g z := RG_fr hT (hf _ _ (by omega) (by omega) (by omega)) (fun j => hf _ _ (by omega) (by omega) (by omega))
    obtain ⟨f', rfl⟩ : ∃ f' : Nat, f = f' + 1 := ⟨f - 1, by omega⟩
    have hn := nxp_in hT.1 p hp
    -- behind a line without a fault
    have go : ∀ (N2 : xM) (p2 : Int) (l2 : List (Int × Int × Int)) (c2 : Int) (S2 : Int → Int) (w2 : xV), p + 1 ≤ p2 → p2 ≤ z → N2 r 36 = p2 → N2 r 40 = (l2.length : Int) → txE g (txP g z f') 0 l2 c2 S2 (nxp g z p2) = X → 7 * (l2.length : Int) ≤ p2 → arrL (N2 (r + 23)) (N2 (r + 24)) (N2 (r + 25)) 0 l2 → N2 r 32 = c2 → (∀ i : Int, 0 ≤ i → i < c2 → N2 (r + 21) i = S2 i) → (∀ b j : Int, ¬ (b = r ∧ (j = 32 ∨ (36 ≤ j ∧ j ≤ 40))) → ¬ b = r + 21 → ¬ (r + 23 ≤ b ∧ b ≤ r + 25) → N2 b j = M b j) → Ru (d + 5) kMo_readsText 39 [xO 9 r, xI 1, w2] [xI 1] N2 Q := fun N2 p2 l2 c2 S2 w2 pp pz m36 m40 htx2 hl2 harr2 m32 hS2 hf2 => by
      have hT2 : RG N2 r g z := RG_fr hT (hf2 _ _ (by omega) (by omega) (by omega)) (fun j => hf2 _ _ (by omega) (by omega) (by omega))
      have hn2 := nxp_in hT.1 p2 pz
      refine vMo_readsText_39 ⟨fun _ => qMo_next hT2 m36 (by omega) pz (fun N3 n36 hf3 => vMo_readsText_50 ?_), fun q => absurd (by decide) q⟩
      have hf3M : ∀ b j : Int, ¬ (b = r ∧ (j = 32 ∨ (36 ≤ j ∧ j ≤ 40))) → ¬ b = r + 21 → ¬ (r + 23 ≤ b ∧ b ≤ r + 25) → N3 b j = M b j := fun b j h7 h8 h9 => by rw [hf3 b j (by omega)]; exact hf2 b j h7 h8 h9
      have e23 : N3 (r + 23) = N2 (r + 23) := funext fun j => hf3 _ _ (by omega)
      have e24 : N3 (r + 24) = N2 (r + 24) := funext fun j => hf3 _ _ (by omega)
      have e25 : N3 (r + 25) = N2 (r + 25) := funext fun j => hf3 _ _ (by omega)
      have e21 : N3 (r + 21) = N2 (r + 21) := funext fun j => hf3 _ _ (by omega)
      have hT3 : RG N3 r g z := RG_fr hT (hf3M _ _ (by omega) (by omega) (by omega)) (fun j => hf3M _ _ (by omega) (by omega) (by omega))
      unfold txE at htx2
      by_cases e9 : g (nxp g z p2) = 59
      · rw [if_pos e9] at htx2
        have hlt : nxp g z p2 < z := by
          refine Classical.byContradiction fun q => ?_
          rw [hT.1.2.1 _ (by omega)] at e9
          exact absurd e9 (by decide)
        rw [n36, z32_id (by omega) (by omega)]
        refine ⟨fun q => absurd e9 q, fun _ => ⟨fun q => absurd q (by decide), fun _ => ?_⟩⟩
        have u23 : up N3 r 36 (nxp g z p2 + 1) (r + 23) = N2 (r + 23) := by rw [← e23]; exact funext fun j => up_ne (by omega)
        have u24 : up N3 r 36 (nxp g z p2 + 1) (r + 24) = N2 (r + 24) := by rw [← e24]; exact funext fun j => up_ne (by omega)
        have u25 : up N3 r 36 (nxp g z p2 + 1) (r + 25) = N2 (r + 25) := by rw [← e25]; exact funext fun j => up_ne (by omega)
        exact ih (nxp g z p2 + 1) (by omega) (by omega) _ l2 c2 S2 f' _ (by omega) up_same (by rw [up_un (by omega), hf3 _ _ (by omega)]; exact m40) (by omega) htx2 (by omega) (by rw [u23, u24, u25]; exact harr2) (by rw [up_un (by omega), hf3 _ _ (by omega)]; exact m32) (fun i i0 i1 => by rw [up_un (by omega), e21]; exact hS2 i i0 i1) (fun b j h7 h8 h9 => by rw [up_un (by omega)]; exact hf3M b j h7 h8 h9)
      · rw [if_neg e9] at htx2
        refine ⟨fun _ => ⟨fun _ => ?_, fun q => absurd rfl q⟩, fun q => absurd e9 q⟩
        have ii := nxp_i hT.1 pz
        refine vMo_readsText_17 ⟨fun _ => qMo_next hT3 n36 (by omega) hn2.2.1 (fun N4 o36 hf4 => vMo_readsText_82 ?_), fun q => absurd rfl q⟩
        rw [ii] at o36 ⊢
        have hf4M : ∀ b j : Int, ¬ (b = r ∧ (j = 32 ∨ (36 ≤ j ∧ j ≤ 40))) → ¬ b = r + 21 → ¬ (r + 23 ≤ b ∧ b ≤ r + 25) → N4 b j = M b j := fun b j h7 h8 h9 => by rw [hf4 b j (by omega)]; exact hf3M b j h7 h8 h9
        refine ⟨fun ee => ?_, fun ee => ?_⟩
        · rw [if_pos ee] at htx2
          have v23 : N4 (r + 23) = N2 (r + 23) := by rw [← e23]; exact funext fun j => hf4 _ _ (by omega)
          have v24 : N4 (r + 24) = N2 (r + 24) := by rw [← e24]; exact funext fun j => hf4 _ _ (by omega)
          have v25 : N4 (r + 25) = N2 (r + 25) := by rw [← e25]; exact funext fun j => hf4 _ _ (by omega)
          have v21 : N4 (r + 21) = N2 (r + 21) := by rw [← e21]; exact funext fun j => hf4 _ _ (by omega)
          refine h1 N4 (by rw [← htx2]) (by rw [← htx2, hf4 _ _ (by omega), hf3 _ _ (by omega)]; exact m40) (by rw [v23, v24, v25, ← htx2]; exact harr2) (by rw [← htx2, hf4 _ _ (by omega), hf3 _ _ (by omega)]; exact m32) (fun i i0 i1 => ?_) hf4M
          rw [← htx2] at i1 ⊢
          rw [v21]
          exact hS2 i i0 i1
        · rw [if_neg ee] at htx2
          rw [o36]
          exact qMo_fails (by omega) (by omega) (by decide) (by decide) (vMo_readsText_95 ⟨fun _ => h0 _ (by rw [← htx2]; show ¬ 8 * nxp g z p2 + 1 = 0; omega) (by rw [up_same, ← htx2]) (fun b j h7 h8 h9 => by rw [up_un (by omega)]; exact hf4M b j h7 h8 h9), fun q => absurd rfl q⟩)
    refine vMo_readsText_17 ⟨fun q => absurd q (by decide), fun _ => ?_⟩
    refine qMo_isStridesWord hTN e36 p0 hp (fun N2 hW n36 hf2 => vMo_readsText_25 ⟨fun q => absurd q (by decide), fun _ => ?_⟩) (fun N2 hW n36 hf2 => vMo_readsText_25 ⟨fun _ => ?_, fun q => absurd rfl q⟩)
    · have hWi := W_in hT.1 hW
      have hf2M : ∀ b j : Int, ¬ (b = r ∧ (j = 32 ∨ (36 ≤ j ∧ j ≤ 40))) → ¬ b = r + 21 → ¬ (r + 23 ≤ b ∧ b ≤ r + 25) → N2 b j = M b j := fun b j h7 h8 h9 => by rw [hf2 b j (by omega)]; exact hf b j h7 h8 h9
      have hT2 : RG N2 r g z := RG_fr hT (hf2M _ _ (by omega) (by omega) (by omega)) (fun j => hf2M _ _ (by omega) (by omega) (by omega))
      have es := (txP_s (z := z) f' p l c S).1 hW
      refine qMo_readsStrides hT2 (k := nxp g z p + 7) (by rw [n36]; omega) (by omega) hWi (fun N3 e0 m36 m32 mS hf3 => vMo_readsText_32 ?_) (fun N3 e0 m37 hf3 => vMo_readsText_32 (vMo_readsText_39 ⟨fun q => absurd rfl q, fun _ => ?_⟩))
      · rw [if_pos e0] at es
        have h3 := st_ok hT.1 (by omega) hW e0
        have q23 : N3 (r + 23) = N (r + 23) := funext fun j => by rw [hf3 _ _ (by omega) (by omega)]; exact hf2 _ _ (by omega)
        have q24 : N3 (r + 24) = N (r + 24) := funext fun j => by rw [hf3 _ _ (by omega) (by omega)]; exact hf2 _ _ (by omega)
        have q25 : N3 (r + 25) = N (r + 25) := funext fun j => by rw [hf3 _ _ (by omega) (by omega)]; exact hf2 _ _ (by omega)
        exact go N3 _ l _ _ _ (by omega) h3.1.2 m36 (by rw [hf3 _ _ (by omega) (by omega), hf2 _ _ (by omega)]; exact e40) (by rw [← htx, es]) (by omega) (by rw [q23, q24, q25]; exact harr) m32 mS (fun b j h7 h8 h9 => by rw [hf3 b j (by omega) h8]; exact hf2M b j h7 h8 h9)
      · rw [if_neg e0] at es
        exact h0 N3 (by rw [← htx, es]; exact e0) (by rw [← htx, es]; exact m37) (fun b j h7 h8 h9 => by rw [hf3 b j (by omega) h8]; exact hf2M b j h7 h8 h9)
    · have hf2M : ∀ b j : Int, ¬ (b = r ∧ (j = 32 ∨ (36 ≤ j ∧ j ≤ 40))) → ¬ b = r + 21 → ¬ (r + 23 ≤ b ∧ b ≤ r + 25) → N2 b j = M b j := fun b j h7 h8 h9 => by rw [hf2 b j (by omega)]; exact hf b j h7 h8 h9
      have hT2 : RG N2 r g z := RG_fr hT (hf2M _ _ (by omega) (by omega) (by omega)) (fun j => hf2M _ _ (by omega) (by omega) (by omega))
      have es := (txP_s (z := z) f' p l c S).2 hW
      have ei := ruP_i hT.1 hp
      refine qMo_readsRule hT2 n36 (by omega) hn.2.1 (m := (l.length : Int)) (by rw [hf2 _ _ (by omega)]; exact e40) (by omega) (by omega) (fun N3 e0 m36 m40 mv ml mc hf3 => ?_) (fun N3 e0 m37 hf3 => vMo_readsText_39 ⟨fun q => absurd rfl q, fun _ => ?_⟩)
      · rw [ei] at e0 m36 mv ml mc
        rw [if_pos e0] at es
        have h3 := ruP_ok hT.1 p0 hp e0
        have hlen : ((l ++ [((ruP g z p).2.2.1, (ruP g z p).2.2.2.1, (ruP g z p).2.2.2.2)]).length : Int) = l.length + 1 := by rw [List.length_append, List.length_singleton]; omega
        refine go N3 _ (l ++ [((ruP g z p).2.2.1, (ruP g z p).2.2.2.1, (ruP g z p).2.2.2.2)]) c S _ (by omega) h3.1.2 m36 (by rw [hlen]; exact m40) (by rw [← htx, es]) (by omega) ?_ (by rw [hf3 _ _ (by omega) (by omega), hf2 _ _ (by omega)]; exact e32) (fun i i0 i1 => by rw [hf3 _ _ (by omega) (by omega), hf2 _ _ (by omega)]; exact hS i i0 i1) (fun b j h7 h8 h9 => by rw [hf3 b j (by omega) (by omega)]; exact hf2M b j h7 h8 h9)
        refine arrL_app l _ 0 (arrL_fr l 0 harr (fun j j0 j1 => ?_)) ⟨⟨?_, ?_, ?_⟩, trivial⟩
        · refine ⟨?_, ?_, ?_⟩ <;> (rw [hf3 _ _ (by omega) (by omega)]; exact hf2 _ _ (by omega))
        · rw [Int.zero_add]; exact mv
        · rw [Int.zero_add]; exact ml
        · rw [Int.zero_add]; exact mc
      · rw [ei] at e0 m37
        rw [if_neg e0] at es
        exact h0 N3 (by rw [← htx, es]; exact e0) (by rw [← htx, es]; exact m37) (fun b j h7 h8 h9 => by rw [hf3 b j (by omega) (by omega)]; exact hf2M b j h7 h8 h9)
  exact main 0 hz.1 _ [] 0 (fun _ => 0) 401 _ (by decide) (by rw [up_un (by omega), up_un (by omega), up_same]) (by rw [up_un (by omega), up_same]; rfl) (by decide) hX (by decide) trivial up_same (fun i i0 i1 => by omega) (fun b j h7 h8 h9 => by rw [up_un (by omega), up_un (by omega), up_un (by omega)])
theorem qMo_startsAnew (h : ∀ N : xM, RN N (r + 1) E0 (tK E0) → (∀ b j : Int, ¬ b = r + 1 → N b j = M b j) → Q xU N) : Ru d kMo_startsAnew 0 [xO 9 r, xU] [] M Q := by
  refine vMo_startsAnew_0 (loop_up 259 (P := fun i => ∀ N : xM, 0 ≤ i → (∀ j : Int, 0 ≤ j → j < i → N (r + 1) j = 0) → (∀ b j : Int, ¬ b = r + 1 → N b j = M b j) → Ru d kMo_startsAnew 2 [xO 9 r, xI i] [] N Q) (fun i hi ih N i0 hu hf => ?_) 0 (by decide) M (by decide) (fun j j0 j1 => by omega) (fun _ _ _ => rfl))
  refine vMo_startsAnew_2 ⟨fun y => ?_, fun y => ⟨by omega, ?_⟩⟩
  · refine loop_up 61 (P := fun i => ∀ N2 : xM, 0 ≤ i → (∀ j : Int, 0 ≤ j → j < i → N2 (r + 1) (182 + j) = -1) → (∀ b j : Int, ¬ (b = r + 1 ∧ 182 ≤ j ∧ j ≤ 242) → N2 b j = N b j) → Ru d kMo_startsAnew 24 [xO 9 r, xI i] [] N2 Q) (fun i2 hi2 ih2 N2 i20 hu2 hf2 => ?_) 0 (by decide) N (by decide) (fun j j0 j1 => by omega) (fun _ _ _ => rfl)
    refine vMo_startsAnew_24 ⟨fun y2 => ⟨by decide, ?_⟩, fun y2 => ?_⟩
    · refine loop_up 8 (P := fun i => ∀ N3 : xM, 0 ≤ i → (∀ j : Int, 0 ≤ j → j < i → N3 (r + 1) (243 + j) = 4) → N3 (r + 1) 1 = 8 → (∀ b j : Int, ¬ (b = r + 1 ∧ (j = 1 ∨ 243 ≤ j)) → N3 b j = N2 b j) → Ru d kMo_startsAnew 57 [xO 9 r, xI i] [] N3 Q) (fun i3 hi3 ih3 N3 i30 hu3 e8 hf3 => ?_) 0 (by decide) _ (by decide) (fun j j0 j1 => by omega) up_same (fun b j hb => up_un (by omega))
      refine vMo_startsAnew_57 ⟨fun y3 => ?_, fun y3 => ?_⟩
      · refine h N3 ⟨?_, ?_, fun k k0 k1 => absurd k1 (by show ¬ k < 0; omega), fun g g0 g1 => ?_, fun l l0 l1 => ?_⟩ (fun b j hb => by rw [hf3 b j (by omega), hf2 b j (by omega)]; exact hf b j hb)
        · rw [hf3 _ _ (by omega), hf2 _ _ (by omega)]; exact hu 0 (by decide) (by omega)
        · exact e8
        · rw [hf3 _ _ (by omega), hu2 g g0 (by omega)]
          exact (tK_0 (T := E0) rfl).symm
        · exact hu3 l l0 (by have : l < 8 := l1; omega)
      · rw [z32_id (x := 243 + i3) (by omega) (by omega), z32_id (x := i3 + 1) (by omega) (by omega)]
        refine ⟨by omega, ih3 (i3 + 1) (by omega) (by omega) _ (by omega) (fun j j0 j1 => ?_) (by rw [up_un (by omega)]; exact e8) (fun b j hb => by rw [up_un (by omega)]; exact hf3 b j hb)⟩
        by_cases e : j = i3
        · rw [e, up_same]
        · rw [up_off (by omega)]; exact hu3 j j0 (by omega)
    · rw [z32_id (x := 182 + i2) (by omega) (by omega), z32_id (x := i2 + 1) (by omega) (by omega)]
      refine ⟨by omega, ih2 (i2 + 1) (by omega) (by omega) _ (by omega) (fun j j0 j1 => ?_) (fun b j hb => by rw [up_un (by omega)]; exact hf2 b j hb)⟩
      by_cases e : j = i2
      · rw [e, up_same]
      · rw [up_off (by omega)]; exact hu2 j j0 (by omega)
  · rw [z32_id (by omega) (by omega)]
    refine ih (i + 1) (by omega) (by omega) _ (by omega) (fun j j0 j1 => ?_) (fun b j hb => by rw [up_un (by omega)]; exact hf b j hb)
    by_cases e : j = i
    · rw [e, up_same]
    · rw [up_off e]; exact hu j j0 (by omega)
theorem qMo_takesStrides {T : TB} {K : Int → Int} {c : Int} {S : Int → Int} (hc : RN M (r + 1) T K) (hn : tN T ≤ 60) (ec : M r 32 = c) (c0 : 1 ≤ c) (c1 : c ≤ 16) (hS : ∀ i : Int, 0 ≤ i → i < c → M (r + 21) i = S i) (h : ∀ N : xM, RN N (r + 1) (wS T c S) K → (∀ b j : Int, ¬ b = r + 1 → N b j = M b j) → Q xU N) : Ru d kMo_takesStrides 0 [xO 9 r, xU] [] M Q := by
  refine vMo_takesStrides_0 ⟨by decide, ?_⟩
  rw [ec]
  refine loop_up 16 (P := fun i => ∀ N : xM, 0 ≤ i → N (r + 1) 1 = c → (∀ j : Int, 0 ≤ j → j < i → j < c → N (r + 1) (243 + j) = S j) → (∀ b j : Int, ¬ (b = r + 1 ∧ (j = 1 ∨ 243 ≤ j)) → N b j = M b j) → Ru d kMo_takesStrides 12 [xO 9 r, xI i] [] N Q) (fun i hi ih N i0 e1 hs hf => ?_) 0 (by decide) _ (by decide) up_same (fun j j0 j1 => by omega) (fun b j hb => up_un (by omega))
  refine vMo_takesStrides_12 ?_
  rw [hf r 32 (by omega), ec]
  refine ⟨fun y => ?_, fun y => ?_⟩
  · refine h N ⟨?_, e1, fun k k0 k1 => ?_, fun g g0 g1 => ?_, fun l l0 l1 => ?_⟩ (fun b j hb => hf b j (by omega))
    · rw [hf _ _ (by omega)]; exact hc.1
    · have k1' : k < tN T := k1
      rw [hf _ _ (by omega), hf _ _ (by omega), hf _ _ (by omega)]; exact hc.2.2.1 k k0 k1
    · rw [hf _ _ (by omega)]; exact hc.2.2.2.1 g g0 g1
    · have l1' : l < c := l1
      exact hs l l0 (by omega) l1'
  · rw [z32_id (x := 243 + i) (by omega) (by omega), z32_id (x := i + 1) (by omega) (by omega)]
    refine ⟨fun y2 => ⟨by omega, ?_⟩, fun y2 => ⟨by omega, by omega, ?_⟩⟩
    · refine ih (i + 1) (by omega) (by omega) _ (by omega) (by rw [up_un (by omega)]; exact e1) (fun j j0 j1 j2 => by rw [up_un (by omega)]; exact hs j j0 (by omega) j2) (fun b j hb => by rw [up_un (by omega)]; exact hf b j hb)
    · refine ih (i + 1) (by omega) (by omega) _ (by omega) (by rw [up_un (by omega)]; exact e1) (fun j j0 j1 j2 => ?_) (fun b j hb => by rw [up_un (by omega)]; exact hf b j hb)
      by_cases e : j = i
      · rw [e, up_same, hf _ _ (by omega)]; exact hS i i0 (by omega)
      · rw [up_off (by omega)]; exact hs j j0 (by omega) j2
/-- told rules are put -/
theorem qMo_tellL {x m : Int} (m1 : m ≤ 57) : ∀ (l : List (Int × Int × Int)) (i : Int) (T : TB) (N : xM) (w : xV), 0 ≤ i → i + (l.length : Int) = m → N r 40 = m → tN T + (l.length : Int) ≤ 60 → tWF T → (∀ y, y ∈ l → vOK y) → arrL (N (r + 23)) (N (r + 24)) (N (r + 25)) i l → RN N (r + 1) T (tK T) → (∀ (N2 : xM) (T2 : TB) (w2 : xV), isPs T l T2 → RN N2 (r + 1) T2 (tK T2) → (∀ b j : Int, ¬ b = r + 1 → N2 b j = N b j) → Ru (d + 4) kMo_tell 39 [xO 9 r, xI x, xI m, w2] [] N2 Q) → Ru (d + 4) kMo_tell 39 [xO 9 r, xI x, xI i, w] [] N Q
  | [], i, T, N, w, i0, im, e40, hn, hw, hv, ha, hc, h => by
    have e : i = m := by have : i + 0 = m := im; omega
    rw [e]
    exact h N T w rfl hc (fun _ _ _ => rfl)
  | y :: l, i, T, N, w, i0, im, e40, hn, hw, hv, ha, hc, h => by
    rw [List.length_cons] at im hn
    have hy := hv y (List.mem_cons_self ..)
    refine vMo_tell_39 ?_
    rw [e40, ha.1.1, ha.1.2.1, ha.1.2.2]
    refine ⟨fun q => by omega, fun _ => ⟨by omega, by omega, by omega, ?_⟩⟩
    refine qMo_puts hw hc hy.1.1 hy.1.2 hy.2.1.1 hy.2.1.2 hy.2.2.1 hy.2.2.2.1 hy.2.2.2.2 (fun _ => by omega) (fun T2 N2 p hp _ hc2 hf2 => vMo_tell_69 ?_)
    rw [z32_id (by omega) (by omega)]
    have hz := put_ZS hp
    have e23 : N2 (r + 23) = N (r + 23) := funext fun j => hf2 _ _ (by omega)
    have e24 : N2 (r + 24) = N (r + 24) := funext fun j => hf2 _ _ (by omega)
    have e25 : N2 (r + 25) = N (r + 25) := funext fun j => hf2 _ _ (by omega)
    exact qMo_tellL m1 l (i + 1) T2 N2 _ (by omega) (by omega) (by rw [hf2 _ _ (by omega)]; exact e40) (by omega) (isPut_wf hw hp hy.1.1 hy.1.2 hy.2.1.1 hy.2.1.2 hy.2.2.1 hy.2.2.2.1 hy.2.2.2.2) (fun q hq => hv q (List.mem_cons_of_mem _ hq)) (by rw [e23, e24, e25]; exact ha.2) hc2 (fun N3 T3 w2 hps hc3 hf3 => h N3 T3 w2 ⟨T2, hp, hps⟩ hc3 (fun b j hb => by rw [hf3 b j hb]; exact hf2 b j hb))
end TextRef

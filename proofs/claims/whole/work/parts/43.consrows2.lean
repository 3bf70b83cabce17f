/-! CONSTRUCTION: an array of rows comes whole. -/
theorem xcell_ag {SH : xSH} {G G2 : xG} {cA : Nat → ClassId} {M : xM} {a : Nat} {sh : Nat × Nat} (h : SH[a]? = some sh) (hM : okM SH M) (hO : okO SH M) (hg : ∀ k : Nat, k < SH.length → G2.1 k = G.1 k) : xcell G2 cA M a sh = xcell G cA M a sh := by
  obtain ⟨t, n⟩ := sh
  have hC : okC SH M a (t, n) := hM a _ h
  match t, h, hC with
  | 2, h, hC =>
    show Sum.inr (n, xfl G2 M a n) = Sum.inr (n, xfl G M a n)
    have e : xfl G2 M a n = xfl G M a n := by
      unfold xfl
      apply List.map_congr_left
      intro k hk
      have hk := List.mem_range.mp hk
      have h1 := hC k hk
      have h2 := hkd n k hk
      unfold xfv
      revert h1 h2
      cases xfld n k with
      | mk kd r =>
        match kd with
        | 0 => exact fun _ _ => rfl
        | 1 => exact fun _ _ => rfl
        | kd + 2 =>
          intro h1 _
          exact congrArg Value.ref (hg _ (lt_of_at h1.2))
    rw [e]
  | 13, h, hC =>
    show Sum.inr (n, cfl G2 M a n) = Sum.inr (n, cfl G M a n)
    have e : cfl G2 M a n = cfl G M a n := by
      unfold cfl
      apply List.map_congr_left
      intro k hk
      have h1 := hO.1 a n (Or.inl h) k
      unfold cfv
      cases xfld n k with
      | mk kd r =>
        match kd with
        | 0 => rfl
        | 1 => rfl
        | kd + 2 =>
          show (if M a k = 0 then Value.null else .ref (G2.1 (M a k - 1).toNat)) = _
          by_cases h0 : M a k = 0
          · rw [if_pos h0]
            show _ = (if M a k = 0 then Value.null else _)
            rw [if_pos h0]
          · rw [if_neg h0, hg _ (one_lt h1 h0)]
            show _ = (if M a k = 0 then Value.null else _)
            rw [if_neg h0]
    rw [e]
  | 6, h, hC =>
    have e : (fun j : Nat => some (G2.1 (M a j).toNat)) = fun j : Nat => some (G.1 (M a j).toNat) := by
      funext j
      have h1 := hO.2 a n (Or.inl h) j
      rw [hg _ (by omega)]
    exact congrArg (fun f => (Sum.inl (cA 6, n, Sum.inr (Sum.inr (Sum.inr (Sum.inr f)))) : va_E)) e
  | 7, h, hC =>
    have e : (fun j : Nat => some (G2.1 (M a j).toNat)) = fun j : Nat => some (G.1 (M a j).toNat) := by
      funext j
      have h1 := hO.2 a n (Or.inr h) j
      rw [hg _ (by omega)]
    exact congrArg (fun f => (Sum.inl (cA 7, n, Sum.inr (Sum.inr (Sum.inr (Sum.inr f)))) : va_E)) e
  | 14, h, hC =>
    have e : (fun j : Nat => if M a j = 0 then none else some (G2.1 (M a j - 1).toNat)) = fun j : Nat => if M a j = 0 then none else some (G.1 (M a j - 1).toNat) := by
      funext j
      have h1 := hO.1 a n (Or.inr h) j
      by_cases h0 : M a j = 0
      · rw [if_pos h0, if_pos h0]
      · rw [if_neg h0, if_neg h0, hg _ (one_lt h1 h0)]
    exact congrArg (fun f => (Sum.inl (cA 6, n, Sum.inr (Sum.inr (Sum.inr (Sum.inr f)))) : va_E)) e
  | 0, _, _ => rfl
  | 1, _, _ => rfl
  | 3, _, _ => rfl
  | 4, _, _ => rfl
  | 5, _, _ => rfl
  | 8, _, _ => rfl
  | 9, _, _ => rfl
  | 10, _, _ => rfl
  | 11, _, _ => rfl
  | 12, _, _ => rfl
  | t + 15, _, _ => rfl
theorem okV_ext {SH SH2 : xSH} {v : xV} (hp : ∀ (a : Nat) (sh : Nat × Nat), SH[a]? = some sh → SH2[a]? = some sh) (h : okV SH v) : okV SH2 v := by
  obtain ⟨t, n, x⟩ := v
  unfold okV at h ⊢
  dsimp only at h ⊢
  split at h <;> first | exact h | exact ⟨h.1, hp _ _ h.2⟩
theorem okC_ext {SH SH2 : xSH} {M : xM} {a : Nat} {sh : Nat × Nat} (hp : ∀ (a : Nat) (sh : Nat × Nat), SH[a]? = some sh → SH2[a]? = some sh) (h : okC SH M a sh) : okC SH2 M a sh := by
  obtain ⟨t, n⟩ := sh
  unfold okC at h ⊢
  dsimp only at h ⊢
  split at h
  · intro k hk
    have h1 := h k hk
    revert h1
    cases xfld n k with
    | mk kd r =>
      match kd with
      | 0 => exact id
      | 1 => exact id
      | kd + 2 => exact fun h1 => ⟨h1.1, hp _ _ h1.2⟩
  · exact h
  · exact fun j hj => okV_ext hp (h j hj)
  · exact fun j hj => okV_ext hp (h j hj)
  · trivial
  · trivial
  · exact h
def gxs (G : xG) (n q : Nat) : xG := (fun k => if k < n then G.1 k else q + (k - n), G.2)
def mnM (M : xM) (n N : Nat) : xM := fun b j => if b = (n : Int) then (if 0 ≤ j ∧ j < (N : Int) then (n : Int) + 1 + j else 0) else M b j
theorem gxs_lt {G : xG} {n q k : Nat} (h : k < n) : (gxs G n q).1 k = G.1 k := if_pos h
theorem gxs_ge {G : xG} {n q k : Nat} (h : n ≤ k) : (gxs G n q).1 k = q + (k - n) := if_neg (by omega)
theorem mnM_ne {M : xM} {n N : Nat} {b j : Int} (h : ¬ b = (n : Int)) : mnM M n N b j = M b j := if_neg h
theorem mnM_in {M : xM} {n N j : Nat} (h : j < N) : mnM M n N (n : Int) (j : Int) = (n : Int) + 1 + j := by
  unfold mnM
  rw [if_pos rfl, if_pos ⟨by omega, by omega⟩]
theorem mnM_out {M : xM} {n N j : Nat} (h : ¬ j < N) : mnM M n N (n : Int) (j : Int) = 0 := by
  unfold mnM
  rw [if_pos rfl, if_neg (by omega)]
def mnS (SH : xSH) (N : Nat) : xSH := SH ++ (7, N) :: List.replicate N (4, 17)
theorem mnS_len {SH : xSH} {N : Nat} : (mnS SH N).length = SH.length + 1 + N := by
  unfold mnS
  rw [List.length_append, List.length_cons, List.length_replicate]
  omega
theorem mnS_lt {SH : xSH} {N : Nat} (a : Nat) (sh : Nat × Nat) (h : SH[a]? = some sh) : (mnS SH N)[a]? = some sh := by
  unfold mnS
  rw [List.getElem?_append_left (lt_of_at h)]
  exact h
theorem mnS_at {SH : xSH} {N : Nat} : (mnS SH N)[SH.length]? = some (7, N) := by
  unfold mnS
  rw [List.getElem?_append_right (Nat.le_refl _), Nat.sub_self]
  rfl
theorem mnS_row {SH : xSH} {N j : Nat} (h : j < N) : (mnS SH N)[SH.length + 1 + j]? = some (4, 17) := by
  unfold mnS
  rw [List.getElem?_append_right (by omega), show SH.length + 1 + j - SH.length = j + 1 by omega, List.getElem?_cons_succ, List.getElem?_replicate, if_pos h]
theorem mnS_inv {SH : xSH} {N b : Nat} {sh : Nat × Nat} (h : (mnS SH N)[b]? = some sh) : (b < SH.length ∧ SH[b]? = some sh) ∨ (b = SH.length ∧ sh = (7, N)) ∨ ∃ j : Nat, j < N ∧ b = SH.length + 1 + j ∧ sh = (4, 17) := by
  have hl := lt_of_at h
  rw [mnS_len] at hl
  by_cases h1 : b < SH.length
  · unfold mnS at h
    rw [List.getElem?_append_left h1] at h
    exact Or.inl ⟨h1, h⟩
  · by_cases h2 : b = SH.length
    · rw [h2, mnS_at] at h
      exact Or.inr (Or.inl ⟨h2, (Option.some.inj h).symm⟩)
    · have h3 : b = SH.length + 1 + (b - SH.length - 1) := by omega
      rw [h3, mnS_row (by omega)] at h
      exact Or.inr (Or.inr ⟨b - SH.length - 1, by omega, h3, (Option.some.inj h).symm⟩)
theorem xDyn_mn {SH : xSH} {G : xG} {cA : Nat → ClassId} {D : va_G} {A : Nat → Prop} {Ls : Nat} {xs : Nat → Int32} {H0 : Heap} {M : xM} {H F : Heap} {locs : List Loc} {N : Nat} (h : xDyn SH G cA D A Ls xs H0 M H locs) (hO : okO SH M) (hz : ∀ b : Nat, SH.length ≤ b → ∀ j : Nat, M b j = 0) (hA : ∀ q, H0.size ≤ q → A q)
    (f1 : F.size = H.size + 1 + N) (f2 : F[H.size]? = some (vp_cell (cA 7) (N, .inr (.inr (.inr (.inr fun j : Nat => if j < N then some (H.size + 1 + j) else none)))))) (hold : ∀ x : Nat, x < H.size → F[x]? = H[x]?) (hrow : ∀ j : Nat, j < N → F[H.size + 1 + j]? = some (vp_cell (cA 4) (17, .inr (.inl fun _ => 0)))) :
    xDyn (mnS SH N) (gxs G SH.length H.size) cA D A Ls xs H0 (mnM M SH.length N) F locs ∧ okO (mnS SH N) (mnM M SH.length N) := by
  have hne : ∀ b : Nat, ¬ b = SH.length → ∀ j : Int, mnM M SH.length N b j = M b j := fun b e j => mnM_ne (nat_cast_ne e)
  have hP0 : va_P D xcl (xW SH G cA M) F := h.1.kept (fun k x hx => hold x.1 ((h.1 k x hx).lt))
  have hlt : ∀ b : Nat, b < SH.length → G.1 b < H.size := by
    intro b hb
    obtain ⟨s1, h1⟩ : ∃ s1, SH[b]? = some s1 := ⟨_, List.getElem?_eq_getElem hb⟩
    exact (h.1 b _ (xW_at h1)).lt
  have hcell : ∀ (b : Nat) (sh : Nat × Nat), SH[b]? = some sh → xcell (gxs G SH.length H.size) cA (mnM M SH.length N) b sh = xcell G cA M b sh := by
    intro b sh hb
    rw [← xcell_ag (G2 := gxs G SH.length H.size) hb h.2.2.2.1 hO (fun k hk => gxs_lt hk)]
    have e1 : ¬ b = SH.length := by have := lt_of_at hb; omega
    unfold xcell xfl xfv cfl cfv
    simp only [hne b e1]
  have key : ∀ (b : Nat) (x : Nat × va_E), (xW (mnS SH N) (gxs G SH.length H.size) cA (mnM M SH.length N))[b]? = some x → ∃ sh : Nat × Nat, (mnS SH N)[b]? = some sh ∧ x = ((gxs G SH.length H.size).1 b, xcell (gxs G SH.length H.size) cA (mnM M SH.length N) b sh) := by
    intro b x hx
    have hb : b < (mnS SH N).length := by
      have h9 := lt_of_at hx
      unfold xW at h9
      rw [List.length_mapIdx] at h9
      exact h9
    obtain ⟨s2, h2⟩ : ∃ s2, (mnS SH N)[b]? = some s2 := ⟨_, List.getElem?_eq_getElem hb⟩
    rw [xW_at h2] at hx
    exact ⟨s2, h2, (Option.some.inj hx).symm⟩
  have hS := h.2.2.1
  refine ⟨⟨fun b x hx => ?_, ⟨fun i j x y hx hy hxy => ?_, fun b x hx => ?_⟩, ⟨by rw [f1]; have := hS.1; omega, fun x h1 h2 => (hold x (Nat.lt_of_lt_of_le h1 hS.1)).trans (hS.2.1 x h1 h2), hS.2.2⟩, fun b sh hb => ?_, ?_⟩, ⟨fun b n2 hb j => ?_, fun b n2 hb j => ?_⟩⟩
  · obtain ⟨sh, hs, rfl⟩ := key b x hx
    rcases mnS_inv hs with ⟨h1, h2⟩ | ⟨h1, h2⟩ | ⟨j, h1, h2, h3⟩
    · rw [hcell b sh h2, gxs_lt h1]
      exact hP0 b _ (xW_at h2)
    · subst h2
      rw [h1, gxs_ge (Nat.le_refl _), Nat.sub_self]
      have e : vp_cell (cA 7) (N, .inr (.inr (.inr (.inr fun j : Nat => if j < N then some (H.size + 1 + j) else none)))) = vp_cell (cA 7) (N, .inr (.inr (.inr (.inr fun j : Nat => some ((gxs G SH.length H.size).1 (mnM M SH.length N SH.length j).toNat))))) := by
        refine vp_same (fun j hj => ?_)
        rw [if_pos hj, mnM_in hj, show ((SH.length : Int) + 1 + (j : Int)).toNat = SH.length + 1 + j by omega, gxs_ge (by omega), show H.size + (SH.length + 1 + j - SH.length) = H.size + 1 + j by omega]
      show F[H.size + 0]? = some (vp_cell (cA 7) (N, .inr (.inr (.inr (.inr fun j : Nat => some ((gxs G SH.length H.size).1 (mnM M SH.length N SH.length j).toNat))))))
      rw [← e]
      exact f2
    · subst h3
      rw [gxs_ge (by omega)]
      have e : (fun i : Nat => Int64.ofInt (mnM M SH.length N b i)) = fun _ => (0 : Int64) := by
        funext i
        rw [hne b (by omega), hz b (by omega) i]
        rfl
      show F[H.size + (b - SH.length)]? = some (vp_cell (cA 4) (17, .inr (.inl fun i : Nat => Int64.ofInt (mnM M SH.length N b i))))
      rw [e, show H.size + (b - SH.length) = H.size + 1 + j by omega]
      exact hrow j h1
  · obtain ⟨s1, h1, rfl⟩ := key i x hx
    obtain ⟨s2, h2, rfl⟩ := key j y hy
    have hxy : (gxs G SH.length H.size).1 i = (gxs G SH.length H.size).1 j := hxy
    by_cases hi : i < SH.length <;> by_cases hj : j < SH.length
    · rw [gxs_lt hi, gxs_lt hj] at hxy
      obtain ⟨t1, g1⟩ : ∃ t1, SH[i]? = some t1 := ⟨_, List.getElem?_eq_getElem hi⟩
      obtain ⟨t2, g2⟩ : ∃ t2, SH[j]? = some t2 := ⟨_, List.getElem?_eq_getElem hj⟩
      exact h.2.1.1 i j _ _ (xW_at g1) (xW_at g2) hxy
    · rw [gxs_lt hi, gxs_ge (by omega)] at hxy
      have := hlt i hi
      omega
    · rw [gxs_lt hj, gxs_ge (by omega)] at hxy
      have := hlt j hj
      omega
    · rw [gxs_ge (by omega), gxs_ge (by omega)] at hxy
      omega
  · obtain ⟨s1, h1, rfl⟩ := key b x hx
    show A ((gxs G SH.length H.size).1 b)
    by_cases hb : b < SH.length
    · rw [gxs_lt hb]
      obtain ⟨t1, g1⟩ : ∃ t1, SH[b]? = some t1 := ⟨_, List.getElem?_eq_getElem hb⟩
      exact h.2.1.2 b (G.1 b, xcell G cA M b t1) (xW_at g1)
    · rw [gxs_ge (by omega)]
      exact hA _ (by have := hS.1; omega)
  · rcases mnS_inv hb with ⟨h1, h2⟩ | ⟨h1, h2⟩ | ⟨j, h1, h2, h3⟩
    · have h5 := okC_ext (SH2 := mnS SH N) mnS_lt (h.2.2.2.1 b sh h2)
      unfold okC at h5 ⊢
      simp only [hne b (by omega)]
      exact h5
    · subst h2
      rw [h1]
      unfold okC
      dsimp only
      intro j hj
      rw [mnM_in hj]
      refine ⟨by show 0 ≤ (SH.length : Int) + 1 + j; omega, ?_⟩
      show (mnS SH N)[((SH.length : Int) + 1 + (j : Int)).toNat]? = some (4, 17)
      rw [show ((SH.length : Int) + 1 + (j : Int)).toNat = SH.length + 1 + j by omega]
      exact mnS_row hj
    · subst h3
      unfold okC
      dsimp only
      intro i _
      rw [hne b (by omega), hz b (by omega) i]
      exact ⟨by decide, by decide⟩
  · have e : ∀ j : Int, mnM M SH.length N (-1) j = M (-1) j := fun j => mnM_ne (by omega)
    have h5 := h.2.2.2.2
    unfold xScr at h5 ⊢
    simp only [e]
    exact h5
  · rw [mnS_len]
    rcases hb with hb | hb <;> rcases mnS_inv hb with ⟨h1, h2⟩ | ⟨h1, h2⟩ | ⟨i, h1, h2, h3⟩
    · rw [hne b (by omega)]; have := hO.1 b n2 (Or.inl h2) j; omega
    · cases h2
    · cases h3
    · rw [hne b (by omega)]; have := hO.1 b n2 (Or.inr h2) j; omega
    · cases h2
    · cases h3
  · rw [mnS_len]
    rcases hb with hb | hb <;> rcases mnS_inv hb with ⟨h1, h2⟩ | ⟨h1, h2⟩ | ⟨i, h1, h2, h3⟩
    · rw [hne b (by omega)]; have := hO.2 b n2 (Or.inl h2) j; omega
    · cases h2
    · cases h3
    · rw [hne b (by omega)]; have := hO.2 b n2 (Or.inr h2) j; omega
    · rw [h1]
      by_cases hj : j < N
      · rw [mnM_in hj]; omega
      · rw [mnM_out hj]; omega
    · cases h3

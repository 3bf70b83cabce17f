/-! CONSTRUCTION: cells come one by one; an object is open (13) until its fields stand. -/
def gx (G : xG) (n q : Nat) : xG := (fun k => if k = n then q else G.1 k, G.2)
def okO (SH : xSH) (M : xM) : Prop := (∀ (a n : Nat), (SH[a]? = some (13, n) ∨ SH[a]? = some (14, n)) → ∀ j : Nat, 0 ≤ M a j ∧ M a j ≤ (SH.length : Int)) ∧ ∀ (a n : Nat), (SH[a]? = some (6, n) ∨ SH[a]? = some (7, n)) → ∀ j : Nat, 0 ≤ M a j ∧ M a j < (SH.length : Int)
theorem gx_lt {G : xG} {n q k : Nat} (h : k < n) : (gx G n q).1 k = G.1 k := if_neg (by omega)
theorem gx_at {G : xG} {n q : Nat} : (gx G n q).1 n = q := if_pos rfl
theorem lt_of_at {α : Type} {l : List α} {i : Nat} {x : α} (h : l[i]? = some x) : i < l.length := (List.getElem?_eq_some_iff.mp h).1
theorem okV_lt {SH : xSH} {t n : Nat} {x : Int} (ht : t = 2 ∨ t = 4) (h : okV SH (t, n, x)) : x.toNat < SH.length := by
  rcases ht with rfl | rfl
  · exact lt_of_at h.2
  · exact lt_of_at h.2
theorem one_lt {N : Nat} {x : Int} (h : 0 ≤ x ∧ x ≤ (N : Int)) (h0 : ¬ x = 0) : (x - 1).toNat < N := by omega
theorem xcell_gx {SH : xSH} {G : xG} {cA : Nat → ClassId} {M : xM} {a q : Nat} {sh : Nat × Nat} (h : SH[a]? = some sh) (hM : okM SH M) (hO : okO SH M)
    (hkd : ∀ ci k : Nat, k < (xfs.getD ci []).length → (xfld ci k).1 = 0 ∨ (xfld ci k).1 = 1 ∨ [2, 3, 4, 5, 6, 7, 12].contains (xfld ci k).1 = true) : xcell (gx G SH.length q) cA M a sh = xcell G cA M a sh := by
  obtain ⟨t, n⟩ := sh
  have hC : okC SH M a (t, n) := hM a _ h
  match t, h, hC with
  | 2, h, hC =>
    show Sum.inr (n, xfl (gx G SH.length q) M a n) = Sum.inr (n, xfl G M a n)
    have e : xfl (gx G SH.length q) M a n = xfl G M a n := by
      unfold xfl
      apply List.map_congr_left
      intro k hk
      have hk := List.mem_range.mp hk
      have h1 := hC k hk
      have h2 := hkd n k hk
      unfold xfv
      revert h1 h2
      cases xfld n k with
      | mk kd r =>
        match kd with
        | 0 => exact fun _ _ => rfl
        | 1 => exact fun _ _ => rfl
        | kd + 2 =>
          intro h1 _
          exact congrArg Value.ref (gx_lt (lt_of_at h1.2))
    rw [e]
  | 13, h, hC =>
    show Sum.inr (n, cfl (gx G SH.length q) M a n) = Sum.inr (n, cfl G M a n)
    have e : cfl (gx G SH.length q) M a n = cfl G M a n := by
      unfold cfl
      apply List.map_congr_left
      intro k hk
      have h1 := hO.1 a n (Or.inl h) k
      unfold cfv
      cases xfld n k with
      | mk kd r =>
        match kd with
        | 0 => rfl
        | 1 => rfl
        | kd + 2 =>
          show (if M a k = 0 then Value.null else .ref ((gx G SH.length q).1 (M a k - 1).toNat)) = _
          by_cases h0 : M a k = 0
          · rw [if_pos h0]
            show _ = (if M a k = 0 then Value.null else _)
            rw [if_pos h0]
          · rw [if_neg h0, gx_lt (one_lt h1 h0)]
            show _ = (if M a k = 0 then Value.null else _)
            rw [if_neg h0]
    rw [e]
  | 6, h, hC =>
    have e : (fun j : Nat => some ((gx G SH.length q).1 (M a j).toNat)) = fun j : Nat => some (G.1 (M a j).toNat) := by
      funext j
      have h1 := hO.2 a n (Or.inl h) j
      rw [gx_lt (by omega)]
    exact congrArg (fun f => (Sum.inl (cA 6, n, Sum.inr (Sum.inr (Sum.inr (Sum.inr f)))) : va_E)) e
  | 7, h, hC =>
    have e : (fun j : Nat => some ((gx G SH.length q).1 (M a j).toNat)) = fun j : Nat => some (G.1 (M a j).toNat) := by
      funext j
      have h1 := hO.2 a n (Or.inr h) j
      rw [gx_lt (by omega)]
    exact congrArg (fun f => (Sum.inl (cA 7, n, Sum.inr (Sum.inr (Sum.inr (Sum.inr f)))) : va_E)) e
  | 14, h, hC =>
    have e : (fun j : Nat => if M a j = 0 then none else some ((gx G SH.length q).1 (M a j - 1).toNat)) = fun j : Nat => if M a j = 0 then none else some (G.1 (M a j - 1).toNat) := by
      funext j
      have h1 := hO.1 a n (Or.inr h) j
      by_cases h0 : M a j = 0
      · rw [if_pos h0, if_pos h0]
      · rw [if_neg h0, if_neg h0, gx_lt (one_lt h1 h0)]
    exact congrArg (fun f => (Sum.inl (cA 6, n, Sum.inr (Sum.inr (Sum.inr (Sum.inr f)))) : va_E)) e
  | 0, _, _ => rfl
  | 1, _, _ => rfl
  | 3, _, _ => rfl
  | 4, _, _ => rfl
  | 5, _, _ => rfl
  | 8, _, _ => rfl
  | 9, _, _ => rfl
  | 10, _, _ => rfl
  | 11, _, _ => rfl
  | 12, _, _ => rfl
  | t + 15, _, _ => rfl
theorem app_at {SH : xSH} {a : Nat} {sh s2 : Nat × Nat} (h : SH[a]? = some sh) : (SH ++ [s2])[a]? = some sh := by
  rw [List.getElem?_append_left (lt_of_at h)]
  exact h
theorem app_inv {SH : xSH} {a : Nat} {sh s2 : Nat × Nat} (h : (SH ++ [s2])[a]? = some sh) : SH[a]? = some sh ∨ (a = SH.length ∧ sh = s2) := by
  by_cases hl : a < SH.length
  · rw [List.getElem?_append_left hl] at h
    exact Or.inl h
  · rw [List.getElem?_append_right (by omega)] at h
    have h0 : a - SH.length < 1 := lt_of_at h
    rw [show a - SH.length = 0 by omega] at h
    cases h
    exact Or.inr ⟨by omega, rfl⟩
theorem xW_gx {SH : xSH} {G : xG} {cA : Nat → ClassId} {M : xM} {q : Nat} {sh : Nat × Nat} (hM : okM SH M) (hO : okO SH M)
    (hkd : ∀ ci k : Nat, k < (xfs.getD ci []).length → (xfld ci k).1 = 0 ∨ (xfld ci k).1 = 1 ∨ [2, 3, 4, 5, 6, 7, 12].contains (xfld ci k).1 = true) :
    xW (SH ++ [sh]) (gx G SH.length q) cA M = xW SH G cA M ++ [(q, xcell (gx G SH.length q) cA M SH.length sh)] := by
  have hl : (xW SH G cA M).length = SH.length := by unfold xW; rw [List.length_mapIdx]
  apply List.ext_getElem?
  intro b
  by_cases hb : b < SH.length
  · obtain ⟨s2, hs⟩ : ∃ s2, SH[b]? = some s2 := ⟨_, List.getElem?_eq_getElem hb⟩
    rw [xW_at (app_at hs), List.getElem?_append_left (by rw [hl]; exact hb), xW_at hs, xcell_gx hs hM hO hkd, gx_lt hb]
  · by_cases he : b = SH.length
    · subst he
      rw [xW_at (sh := sh) (by rw [List.getElem?_append_right (Nat.le_refl _), Nat.sub_self]; rfl), List.getElem?_append_right (by rw [hl]; exact Nat.le_refl _), hl, Nat.sub_self, gx_at]
      rfl
    · rw [List.getElem?_eq_none (by unfold xW; rw [List.length_mapIdx, List.length_append]; simp; omega), List.getElem?_eq_none (by rw [List.length_append, hl]; simp; omega)]
theorem okV_app {SH : xSH} {s2 : Nat × Nat} {v : xV} (h : okV SH v) : okV (SH ++ [s2]) v := by
  obtain ⟨t, n, x⟩ := v
  unfold okV at h ⊢
  dsimp only at h ⊢
  split at h <;> first | exact h | exact ⟨h.1, app_at h.2⟩
theorem okC_app {SH : xSH} {M : xM} {a : Nat} {sh s2 : Nat × Nat} (h : okC SH M a sh) : okC (SH ++ [s2]) M a sh := by
  obtain ⟨t, n⟩ := sh
  unfold okC at h ⊢
  dsimp only at h ⊢
  split at h
  · intro k hk
    have h1 := h k hk
    revert h1
    cases xfld n k with
    | mk kd r =>
      match kd with
      | 0 => exact id
      | 1 => exact id
      | kd + 2 => exact fun h1 => ⟨h1.1, app_at h1.2⟩
  · exact h
  · exact fun j hj => okV_app (h j hj)
  · exact fun j hj => okV_app (h j hj)
  · trivial
  · trivial
  · exact h
theorem okM_app {SH : xSH} {M : xM} {s2 : Nat × Nat} (h : okM SH M) (h2 : okC (SH ++ [s2]) M SH.length s2) : okM (SH ++ [s2]) M := by
  intro a sh ha
  rcases app_inv ha with q | ⟨rfl, rfl⟩
  · exact okC_app (h a sh q)
  · exact h2
theorem okO_app {SH : xSH} {M : xM} {s2 : Nat × Nat} (h : okO SH M) (hz : ∀ j : Nat, M SH.length j = 0) : okO (SH ++ [s2]) M := by
  have hl : ((SH ++ [s2]).length : Int) = (SH.length : Int) + 1 := by rw [List.length_append]; rfl
  refine ⟨fun a n ha j => ?_, fun a n ha j => ?_⟩
  · rw [hl]
    rcases ha with ha | ha <;> rcases app_inv ha with q | ⟨rfl, -⟩
    · have := h.1 a n (Or.inl q) j; omega
    · rw [hz j]; omega
    · have := h.1 a n (Or.inr q) j; omega
    · rw [hz j]; omega
  · rw [hl]
    rcases ha with ha | ha <;> rcases app_inv ha with q | ⟨rfl, -⟩
    · have := h.2 a n (Or.inl q) j; omega
    · rw [hz j]; omega
    · have := h.2 a n (Or.inr q) j; omega
    · rw [hz j]; omega

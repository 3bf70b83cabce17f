/-! THE WORLD of a memory: the cells by their shapes. -/
def xfv (G : xG) (M : xM) (a k : Nat) (f : Nat × Nat × Int) : Value := match f.1 with
  | 0 => .int (Int32.ofInt (M a k))
  | 1 => .long (Int64.ofInt (M a k))
  | _ => .ref (G.1 ((a : Int) + f.2.2).toNat)
def xfl (G : xG) (M : xM) (a ci : Nat) : List Value := (List.range (xfs.getD ci []).length).map fun k => xfv G M a k (xfld ci k)
/-- while an object is being made: a reference held as 1 more than its cell, 0 for none -/
def cfv (G : xG) (M : xM) (a k : Nat) (f : Nat × Nat × Int) : Value := match f.1 with
  | 0 => .int (Int32.ofInt (M a k))
  | 1 => .long (Int64.ofInt (M a k))
  | _ => if M a k = 0 then .null else .ref (G.1 (M a k - 1).toNat)
def cfl (G : xG) (M : xM) (a ci : Nat) : List Value := (List.range (xfs.getD ci []).length).map fun k => cfv G M a k (xfld ci k)
def xcell (G : xG) (cA : Nat → ClassId) (M : xM) (a : Nat) (sh : Nat × Nat) : va_E := match sh.1 with
  | 2 => .inr (sh.2, xfl G M a sh.2)
  | 4 => .inl (cA 4, sh.2, .inr (.inl fun j => Int64.ofInt (M a j)))
  | 6 => .inl (cA 6, sh.2, .inr (.inr (.inr (.inr fun j => some (G.1 (M a j).toNat)))))
  | 7 => .inl (cA 7, sh.2, .inr (.inr (.inr (.inr fun j => some (G.1 (M a j).toNat)))))
  | 13 => .inr (sh.2, cfl G M a sh.2)
  | 14 => .inl (cA 6, sh.2, .inr (.inr (.inr (.inr fun j => if M a j = 0 then none else some (G.1 (M a j - 1).toNat)))))
  | t => .inl (cA t, sh.2, .inl fun j => Int32.ofInt (M a j))
def xW (SH : xSH) (G : xG) (cA : Nat → ClassId) (M : xM) : va_W := SH.mapIdx fun a sh => (G.1 a, xcell G cA M a sh)
theorem xW_at {SH : xSH} {G : xG} {cA : Nat → ClassId} {M : xM} {a : Nat} {sh : Nat × Nat} (h : SH[a]? = some sh) : (xW SH G cA M)[a]? = some (G.1 a, xcell G cA M a sh) := by
  unfold xW
  rw [List.getElem?_mapIdx, h]
  rfl
def xtys (cA : Nat → ClassId) : List (ClassId × FieldType) := [(cA 3, .int), (cA 4, .long), (cA 5, .boolean), (cA 6, .object "RouteStrides$Table"), (cA 7, .array .long), (cA 12, .byte)]
/-- a cell's places hold what they may -/
def okC (SH : xSH) (M : xM) (a : Nat) (sh : Nat × Nat) : Prop := match sh.1 with
  | 2 => ∀ k : Nat, k < (xfs.getD sh.2 []).length → (match (xfld sh.2 k).1 with
    | 0 => i32 (M a k)
    | 1 => i64 (M a k)
    | t => 0 ≤ (a : Int) + (xfld sh.2 k).2.2 ∧ SH[((a : Int) + (xfld sh.2 k).2.2).toNat]? = some (t, (xfld sh.2 k).2.1))
  | 4 => ∀ j : Nat, j < sh.2 → i64 (M a j)
  | 6 => ∀ j : Nat, j < sh.2 → okV SH (xO xTab (M a j))
  | 7 => ∀ j : Nat, j < sh.2 → okV SH (xAL xRow (M a j))
  | 13 => True
  | 14 => True
  | _ => ∀ j : Nat, j < sh.2 → i32 (M a j)
def okM (SH : xSH) (M : xM) : Prop := ∀ (a : Nat) (sh : Nat × Nat), SH[a]? = some sh → okC SH M a sh
theorem up_ne {M : xM} {a i v b j : Int} (h : ¬ b = a) : up M a i v b j = M b j := if_neg h
theorem up_same {M : xM} {a i v : Int} : up M a i v a i = v := by
  unfold up
  rw [if_pos rfl, if_pos rfl]
theorem up_off {M : xM} {a i v j : Int} (h : ¬ j = i) : up M a i v a j = M a j := by
  unfold up
  rw [if_pos rfl, if_neg h]
theorem nat_cast_ne {a b : Nat} (h : ¬ b = a) : ¬ (b : Int) = (a : Int) := by omega
theorem xcell_ne {G : xG} {cA : Nat → ClassId} {M : xM} {a b : Nat} {i v : Int} {sh : Nat × Nat} (h : ¬ b = a) : xcell G cA (up M a i v) b sh = xcell G cA M b sh := by
  have e : ∀ j : Int, up M a i v b j = M b j := fun j => up_ne (nat_cast_ne h)
  unfold xcell xfl xfv cfl cfv
  simp only [e]
theorem xW_up {SH : xSH} {G : xG} {cA : Nat → ClassId} {M : xM} {a : Nat} {i v : Int} {sh : Nat × Nat} {E : va_E} (h : SH[a]? = some sh) (he : xcell G cA (up M a i v) a sh = E) : (xW SH G cA M).set a (G.1 a, E) = xW SH G cA (up M a i v) := by
  apply List.ext_getElem?
  intro b
  by_cases hb : a = b
  · subst hb
    rw [List.getElem?_set_self (by unfold xW; rw [List.length_mapIdx]; exact (List.getElem?_eq_some_iff.mp h).1), xW_at h, he]
  · rw [List.getElem?_set_ne hb]
    cases hs : SH[b]? with
    | none =>
      unfold xW
      rw [List.getElem?_mapIdx, List.getElem?_mapIdx, hs]
      rfl
    | some s2 => rw [xW_at hs, xW_at hs, xcell_ne (fun q => hb q.symm)]
theorem okM_up {SH : xSH} {M : xM} {a : Nat} {i v : Int} {sh : Nat × Nat} (h : okM SH M) (ha : SH[a]? = some sh) (hn : okC SH (up M a i v) a sh) : okM SH (up M a i v) := by
  intro b s2 hb
  by_cases e : b = a
  · subst e
    rw [ha] at hb
    cases hb
    exact hn
  · have h2 := h b s2 hb
    have e2 : ∀ j : Int, up M a i v b j = M b j := fun j => up_ne (nat_cast_ne e)
    unfold okC at h2 ⊢
    simp only [e2]
    exact h2
/-- by the shape: what a cell is -/
theorem xcell_3 {G : xG} {cA : Nat → ClassId} {M : xM} {a n : Nat} : xcell G cA M a (3, n) = .inl (cA 3, n, .inl fun j => Int32.ofInt (M a j)) := rfl
theorem upd_fun {M : xM} {a k : Nat} {x : Int} {j : Int} (hj : j = (k : Int)) : (fun q : Nat => Int32.ofInt (up M a j x a q)) = upd (fun q : Nat => Int32.ofInt (M a q)) k (Int32.ofInt x) := by
  subst hj
  funext q
  by_cases e : q = k
  · subst e
    rw [up_same]
    unfold upd
    rw [if_pos rfl]
  · rw [up_off (nat_cast_ne e)]
    unfold upd
    rw [if_neg e]
theorem updL_fun {M : xM} {a k : Nat} {x : Int} {j : Int} (hj : j = (k : Int)) : (fun q : Nat => Int64.ofInt (up M a j x a q)) = vp_updL (fun q : Nat => Int64.ofInt (M a q)) k (Int64.ofInt x) := by
  subst hj
  funext q
  by_cases e : q = k
  · subst e
    rw [up_same]
    unfold vp_updL
    rw [if_pos rfl]
  · rw [up_off (nat_cast_ne e)]
    unfold vp_updL
    rw [if_neg e]
theorem updR_fun {G : xG} {M : xM} {a k : Nat} {x : Int} {j : Int} (hj : j = (k : Int)) : (fun q : Nat => some (G.1 (up M a j x a q).toNat)) = va_up (fun q : Nat => some (G.1 (M a q).toNat)) k (some (G.1 x.toNat)) := by
  subst hj
  funext q
  by_cases e : q = k
  · subst e
    rw [up_same]
    unfold va_up
    rw [if_pos rfl]
  · rw [up_off (nat_cast_ne e)]
    unfold va_up
    rw [if_neg e]

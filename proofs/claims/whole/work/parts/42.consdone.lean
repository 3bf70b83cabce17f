/-! CONSTRUCTION: an object stands; arrays of references. -/
theorem vp_same {cA : ClassId} {n : Nat} {f g : Nat → Option Nat} (h : ∀ j : Nat, j < n → f j = g j) : vp_cell cA (n, .inr (.inr (.inr (.inr f)))) = vp_cell cA (n, .inr (.inr (.inr (.inr g)))) := by
  have e : (fun j : Fin n => va_rf (f j.val)) = fun j : Fin n => va_rf (g j.val) := funext fun j => by rw [h j.val j.isLt]
  show ({ cls := cA, slots := Array.ofFn (n := n) (fun j : Fin n => va_rf (f j.val)), vm := .none } : Cell) = { cls := cA, slots := Array.ofFn (n := n) (fun j : Fin n => va_rf (g j.val)), vm := .none }
  rw [e]
/-- other shapes over the same heap -/
theorem xDyn_re {SH SH2 : xSH} {G : xG} {cA : Nat → ClassId} {D : va_G} {A : Nat → Prop} {Ls : Nat} {xs : Nat → Int32} {H0 : Heap} {M M2 : xM} {H : Heap} {locs : List Loc} (h : xDyn SH G cA D A Ls xs H0 M H locs) (hl : SH2.length = SH.length)
    (hc : ∀ (a : Nat) (sh sh2 : Nat × Nat), SH[a]? = some sh → SH2[a]? = some sh2 → va_at D xcl (G.1 a, xcell G cA M a sh) H → va_at D xcl (G.1 a, xcell G cA M2 a sh2) H) (hM : okM SH2 M2) (hs : xScr Ls xs M2) : xDyn SH2 G cA D A Ls xs H0 M2 H locs := by
  have key : ∀ (b : Nat) (q : Nat × va_E), (xW SH2 G cA M2)[b]? = some q → ∃ sh sh2 : Nat × Nat, SH[b]? = some sh ∧ SH2[b]? = some sh2 ∧ q = (G.1 b, xcell G cA M2 b sh2) := by
    intro b q hq
    have hb : b < SH2.length := by
      have h9 := lt_of_at hq
      unfold xW at h9
      rw [List.length_mapIdx] at h9
      exact h9
    obtain ⟨s1, h1⟩ : ∃ s1, SH[b]? = some s1 := ⟨_, List.getElem?_eq_getElem (by rw [← hl]; exact hb)⟩
    obtain ⟨s2, h2⟩ : ∃ s2, SH2[b]? = some s2 := ⟨_, List.getElem?_eq_getElem hb⟩
    rw [xW_at h2] at hq
    exact ⟨s1, s2, h1, h2, (Option.some.inj hq).symm⟩
  refine ⟨fun b q hq => ?_, ⟨fun i j x y hx hy hxy => ?_, fun b q hq => ?_⟩, h.2.2.1, hM, hs⟩
  · obtain ⟨s1, s2, h1, h2, rfl⟩ := key b q hq
    exact hc b s1 s2 h1 h2 (h.1 b _ (xW_at h1))
  · obtain ⟨s1, s2, h1, h2, rfl⟩ := key i x hx
    obtain ⟨t1, t2, g1, g2, rfl⟩ := key j y hy
    exact h.2.1.1 i j _ _ (xW_at h1) (xW_at g1) hxy
  · obtain ⟨s1, s2, h1, h2, rfl⟩ := key b q hq
    exact h.2.1.2 b (G.1 b, xcell G cA M b s1) (xW_at h1)
theorem set_at {SH : xSH} {a b : Nat} {sh s2 : Nat × Nat} (h : (SH.set a s2)[b]? = some sh) : (b = a ∧ sh = s2) ∨ (¬ b = a ∧ SH[b]? = some sh) := by
  by_cases e : a = b
  · subst e
    have hl := lt_of_at h
    rw [List.length_set] at hl
    rw [List.getElem?_set_self hl] at h
    exact Or.inl ⟨rfl, (Option.some.inj h).symm⟩
  · rw [List.getElem?_set_ne e] at h
    exact Or.inr ⟨fun q => e q.symm, h⟩
theorem set_nx {SH : xSH} {a b : Nat} {sh s2 : Nat × Nat} (h : SH[b]? = some sh) (hn : ¬ b = a) : (SH.set a s2)[b]? = some sh := by
  rw [List.getElem?_set_ne (fun q => hn q.symm)]
  exact h
theorem open_ne {SH : xSH} {a x t n : Nat} {s0 : Nat × Nat} (ha : SH[a]? = some s0) (h0 : s0.1 = 13 ∨ s0.1 = 14) (h : SH[x]? = some (t, n)) (h1 : ¬ t = 13) (h2 : ¬ t = 14) : ¬ x = a := by
  intro q
  rw [q, ha] at h
  have e : s0 = (t, n) := Option.some.inj h
  subst e
  rcases h0 with h0 | h0
  · exact h1 h0
  · exact h2 h0
theorem okV_set {SH : xSH} {a : Nat} {s0 s2 : Nat × Nat} {v : xV} (ha : SH[a]? = some s0) (h0 : s0.1 = 13 ∨ s0.1 = 14) (h1 : ¬ v.1 = 13) (h2 : ¬ v.1 = 14) (h : okV SH v) : okV (SH.set a s2) v := by
  obtain ⟨t, n, x⟩ := v
  dsimp only at h1 h2
  unfold okV at h ⊢
  dsimp only at h ⊢
  split at h <;> first | exact h | exact ⟨h.1, set_nx h.2 (open_ne ha h0 h.2 h1 h2)⟩
theorem okC_set {SH : xSH} {M : xM} {a b : Nat} {s0 s2 sh : Nat × Nat} (ha : SH[a]? = some s0) (h0 : s0.1 = 13 ∨ s0.1 = 14) (h : okC SH M b sh) : okC (SH.set a s2) M b sh := by
  obtain ⟨t, n⟩ := sh
  unfold okC at h ⊢
  dsimp only at h ⊢
  split at h
  · intro k hk
    have h1 := h k hk
    have h2 := hkd n k hk
    revert h1 h2
    cases xfld n k with
    | mk kd r =>
      match kd with
      | 0 => exact fun h1 _ => h1
      | 1 => exact fun h1 _ => h1
      | kd + 2 =>
        intro h1 h2
        have h3 : SH[((b : Int) + r.2).toNat]? = some (kd + 2, r.1) := h1.2
        have h4 : kd + 2 = 0 ∨ kd + 2 = 1 ∨ [2, 3, 4, 5, 6, 7, 12].contains (kd + 2) = true := h2
        have h5 : ∀ z : Nat, [2, 3, 4, 5, 6, 7, 12].contains z = false → ¬ kd + 2 = z ∨ kd + 2 = 0 ∨ kd + 2 = 1 := by
          intro z hz
          rcases h4 with h4 | h4 | h4
          · exact Or.inr (Or.inl h4)
          · exact Or.inr (Or.inr h4)
          · refine Or.inl (fun e => ?_)
            rw [e, hz] at h4
            cases h4
        have h6 := h5 13 (by decide)
        have h7 := h5 14 (by decide)
        exact ⟨h1.1, set_nx h3 (open_ne ha h0 h3 (by omega) (by omega))⟩
  · exact h
  · exact fun j hj => okV_set ha h0 (by show ¬ (2 : Nat) = 13; decide) (by show ¬ (2 : Nat) = 14; decide) (h j hj)
  · exact fun j hj => okV_set ha h0 (by show ¬ (4 : Nat) = 13; decide) (by show ¬ (4 : Nat) = 14; decide) (h j hj)
  · trivial
  · trivial
  · exact h
/-- an object's fields stand: it is one of its class -/
theorem c_done {SH : xSH} {G : xG} {cA : Nat → ClassId} {D : va_G} {A : Nat → Prop} {Ls : Nat} {xs : Nat → Int32} {H0 : Heap} {M : xM} {H : Heap} {locs : List Loc} {a ci : Nat} (h : xDyn SH G cA D A Ls xs H0 M H locs) (hO : okO SH M) (ha : SH[a]? = some (13, ci))
    (hf : ∀ k : Nat, k < (xfs.getD ci []).length → (match (xfld ci k).1 with
      | 0 => i32 (M a k)
      | 1 => i64 (M a k)
      | t => 0 ≤ (a : Int) + (xfld ci k).2.2 ∧ M a k = (a : Int) + (xfld ci k).2.2 + 1 ∧ (SH.set a (2, ci))[((a : Int) + (xfld ci k).2.2).toNat]? = some (t, (xfld ci k).2.1))) :
    xDyn (SH.set a (2, ci)) G cA D A Ls xs H0 M H locs ∧ okO (SH.set a (2, ci)) M := by
  refine ⟨xDyn_re h (by rw [List.length_set]) (fun b sh sh2 h1 h2 h3 => ?_) (fun b sh hb => ?_) h.2.2.2.2, ⟨fun b n hb j => ?_, fun b n hb j => ?_⟩⟩
  · rcases set_at h2 with ⟨e1, e2⟩ | ⟨e1, h4⟩
    · subst e2
      rw [e1] at h1 h3 ⊢
      rw [ha] at h1
      cases h1
      have e : xfl G M a ci = cfl G M a ci := by
        unfold xfl cfl
        apply List.map_congr_left
        intro k hk
        have hk := List.mem_range.mp hk
        have h5 := hf k hk
        unfold xfv cfv
        revert h5
        cases xfld ci k with
        | mk kd r =>
          match kd with
          | 0 => exact fun _ => rfl
          | 1 => exact fun _ => rfl
          | kd + 2 =>
            intro h5
            have h6 : M a k = (a : Int) + r.2 + 1 := h5.2.1
            have h7 : 0 ≤ (a : Int) + r.2 := h5.1
            show Value.ref (G.1 ((a : Int) + r.2).toNat) = if M a k = 0 then Value.null else .ref (G.1 (M a k - 1).toNat)
            rw [if_neg (by omega), h6, show (a : Int) + r.2 + 1 - 1 = (a : Int) + r.2 by omega]
      show va_at D xcl (G.1 a, Sum.inr (ci, xfl G M a ci)) H
      rw [e]
      exact h3
    · rw [h4] at h1
      cases h1
      exact h3
  · rcases set_at hb with ⟨e1, e2⟩ | ⟨e1, h4⟩
    · subst e2
      rw [e1]
      unfold okC
      dsimp only
      intro k hk
      have h5 := hf k hk
      revert h5
      cases xfld ci k with
      | mk kd r =>
        match kd with
        | 0 => exact id
        | 1 => exact id
        | kd + 2 => exact fun h5 => ⟨h5.1, h5.2.2⟩
    · exact okC_set ha (Or.inl rfl) (h.2.2.2.1 b sh h4)
  · rw [List.length_set]
    rcases hb with hb | hb <;> rcases set_at hb with ⟨-, e⟩ | ⟨-, h4⟩
    · cases e
    · exact hO.1 b n (Or.inl h4) j
    · cases e
    · exact hO.1 b n (Or.inr h4) j
  · rw [List.length_set]
    rcases hb with hb | hb <;> rcases set_at hb with ⟨-, e⟩ | ⟨-, h4⟩
    · cases e
    · exact hO.2 b n (Or.inl h4) j
    · cases e
    · exact hO.2 b n (Or.inr h4) j
/-- an array of tables is full -/
def dn (M : xM) (a : Int) : xM := fun b j => if b = a then (if M b j = 0 then 0 else M b j - 1) else M b j
theorem dn_ne {M : xM} {a b j : Int} (h : ¬ b = a) : dn M a b j = M b j := if_neg h
theorem dn_at {M : xM} {a j : Int} : dn M a a j = if M a j = 0 then 0 else M a j - 1 := if_pos rfl
theorem c_doneT {SH : xSH} {G : xG} {cA : Nat → ClassId} {D : va_G} {A : Nat → Prop} {Ls : Nat} {xs : Nat → Int32} {H0 : Heap} {M : xM} {H : Heap} {locs : List Loc} {a n : Nat} (h : xDyn SH G cA D A Ls xs H0 M H locs) (hO : okO SH M) (ha : SH[a]? = some (14, n))
    (hf : ∀ j : Nat, j < n → 0 < M a j ∧ SH[(M a j - 1).toNat]? = some (2, xTab)) :
    xDyn (SH.set a (6, n)) G cA D A Ls xs H0 (dn M a) H locs ∧ okO (SH.set a (6, n)) (dn M a) := by
  have hne : ∀ (b : Nat), ¬ b = a → ∀ j : Int, dn M a b j = M b j := fun b e j => dn_ne (nat_cast_ne e)
  have hpos : 0 < SH.length := Nat.lt_of_le_of_lt (Nat.zero_le _) (lt_of_at ha)
  refine ⟨xDyn_re h (by rw [List.length_set]) (fun b sh sh2 h1 h2 h3 => ?_) (fun b sh hb => ?_) ?_, ⟨fun b n2 hb j => ?_, fun b n2 hb j => ?_⟩⟩
  · rcases set_at h2 with ⟨e1, e2⟩ | ⟨e1, h4⟩
    · subst e2
      rw [e1] at h1 h3 ⊢
      rw [ha] at h1
      cases h1
      have e : vp_cell (cA 6) (n, .inr (.inr (.inr (.inr fun j : Nat => if M a j = 0 then none else some (G.1 (M a j - 1).toNat))))) = vp_cell (cA 6) (n, .inr (.inr (.inr (.inr fun j : Nat => some (G.1 (dn M a a j).toNat))))) := by
        refine vp_same (fun j hj => ?_)
        have h5 := (hf j hj).1
        have h6 : ¬ M a j = 0 := by omega
        rw [dn_at, if_neg h6, if_neg h6]
      show H[G.1 a]? = some (vp_cell (cA 6) (n, .inr (.inr (.inr (.inr fun j : Nat => some (G.1 (dn M a a j).toNat))))))
      rw [← e]
      exact h3
    · rw [h4] at h1
      cases h1
      have e : xcell G cA (dn M a) b sh = xcell G cA M b sh := by
        unfold xcell xfl xfv cfl cfv
        simp only [hne b e1]
      rw [e]
      exact h3
  · rcases set_at hb with ⟨e1, e2⟩ | ⟨e1, h4⟩
    · subst e2
      rw [e1]
      unfold okC
      dsimp only
      intro j hj
      have h5 := hf j hj
      have h6 : ¬ M a j = 0 := by omega
      have e9 : dn M a a j = M a j - 1 := by rw [dn_at, if_neg h6]
      rw [e9]
      exact okV_set ha (Or.inr rfl) (by show ¬ (2 : Nat) = 13; decide) (by show ¬ (2 : Nat) = 14; decide) (show okV SH (xO xTab (M a j - 1)) from ⟨by show 0 ≤ M a j - 1; omega, h5.2⟩)
    · have h5 := okC_set (s2 := (6, n)) ha (Or.inr rfl) (h.2.2.2.1 b sh h4)
      unfold okC at h5 ⊢
      simp only [hne b e1]
      exact h5
  · have e : ∀ j : Int, dn M a (-1) j = M (-1) j := fun j => dn_ne (by omega)
    have h5 := h.2.2.2.2
    unfold xScr at h5 ⊢
    simp only [e]
    exact h5
  · rw [List.length_set]
    rcases hb with hb | hb <;> rcases set_at hb with ⟨-, e⟩ | ⟨e1, h4⟩
    · cases e
    · rw [hne b e1]; exact hO.1 b n2 (Or.inl h4) j
    · cases e
    · rw [hne b e1]; exact hO.1 b n2 (Or.inr h4) j
  · rw [List.length_set]
    rcases hb with hb | hb <;> rcases set_at hb with ⟨e1, e⟩ | ⟨e1, h4⟩
    · rw [e1, dn_at]
      have h5 := hO.1 a n (Or.inr ha) j
      by_cases h6 : M a j = 0
      · rw [if_pos h6]; omega
      · rw [if_neg h6]; omega
    · rw [hne b e1]; exact hO.2 b n2 (Or.inl h4) j
    · cases e
    · rw [hne b e1]; exact hO.2 b n2 (Or.inr h4) j
section CRows2
variable {p : Program} {l : Launch} {e : Env} {R : Room} {s : State} {m : MethodId} {args : Array Value} {below : List Frame} {meth : Method} {c : Code} {H : Heap} {locs : List Loc} {cells slots : Nat} {Q : State → Prop}
variable {cc : ByteArray} {pc : Nat} {ls : Array Slot} {rest : List Value} {SH : xSH} {G : xG} {cA : Nat → ClassId} {D : va_G} {A : Nat → Prop} {Ls : Nat} {xs : Nat → Int32} {M : xM}
/-- an array of tables comes, empty -/
theorem c_newT (hx : p.tables.exec = Jvm.exec) (hb : c.code = cc) (hst : xStat G cA D A Ls xs s) (hDy : xDyn SH G cA D A Ls xs s.heap M H locs) (hO : okO SH M) (hz : ∀ j : Nat, M SH.length j = 0) (hA : ∀ q, s.heap.size ≤ q → A q) {own : String} {index N : Nat} {n : Int32} (hown : s.vm.findClass own = some m.cls) (hclink : (Cond.classLink own index "RouteStrides$Table").before args s = true) (hover : va_AO "RouteStrides$Table" s) (hn : ¬ n < 0) (hN : n.toNatClampNeg = N) (hbytes : N * 4 ≤ 536870912) (hcells : cells + 1 ≤ R.cells) (hslots : slots + N ≤ R.slots) (hd : decode cc pc = .ok (.anewarray index, 3))
    (kk : ∀ (q : Nat) (H1 : Heap), xDyn (SH ++ [(14, N)]) (gx G SH.length q) cA D A Ls xs s.heap M H1 locs → okO (SH ++ [(14, N)]) M → W p l e R s m args below meth c H1 locs (cells + 1) (slots + N) Q (F0 m (pc + 3) ls (.ref q :: rest))) : W p l e R s m args below meth c H locs cells slots Q (F0 m pc ls (.int n :: rest)) := by
  refine va_newq hx hb hown hclink hover hst.1 hDy.1 hDy.2.1 hDy.2.2.1 hA hn hN hbytes hcells hslots hd (fun q cA0 H1 hK1 hP1 hD1 hS1 => ?_)
  have e : cA0 = cA 6 := by
    obtain ⟨kA, comp, -, -, -, h1⟩ := (hK1.2 (xtys cA).length (cA0, .object "RouteStrides$Table") (by rw [List.getElem?_append_right (Nat.le_refl _), Nat.sub_self]; rfl)).2
    obtain ⟨kA2, comp2, -, -, -, h2⟩ := (hst.1.2 3 (cA 6, .object "RouteStrides$Table") rfl).2
    exact Option.some.inj (h1.symm.trans h2)
  subst e
  have ew : xW SH G cA M ++ [(q, Sum.inl (cA 6, N, .inr (.inr (.inr (.inr (fun _ => none))))))] = xW (SH ++ [(14, N)]) (gx G SH.length q) cA M := by
    rw [xW_gx hDy.2.2.2.1 hO hkd]
    have e2 : (fun j : Nat => if M SH.length j = 0 then none else some ((gx G SH.length q).1 (M SH.length j - 1).toNat)) = fun _ => none := funext fun j => if_pos (hz j)
    exact congrArg (fun f : Nat → Option Nat => xW SH G cA M ++ [(q, (Sum.inl (cA 6, N, .inr (.inr (.inr (.inr f)))) : va_E))]) e2.symm
  rw [ew] at hP1 hD1
  exact kk q H1 ⟨hP1, hD1, hS1, okM_app hDy.2.2.2.1 trivial, hDy.2.2.2.2⟩ (okO_app hO hz)
/-- a table goes into an array that is being filled -/
theorem c_ast (hx : p.tables.exec = Jvm.exec) (hb : c.code = cc) (hst : xStat G cA D A Ls xs s) (hDy : xDyn SH G cA D A Ls xs s.heap M H locs) (hO : okO SH M) {a j k n : Nat} (ha : SH[a]? = some (14, n)) (hj : SH[j]? = some (2, 6)) (hk : k < n) (hk2 : i32 (k : Int)) (hd : decode cc pc = .ok (.aastore, 1))
    (kk : ∀ (H1 : Heap) (locs1 : List Loc), xDyn SH G cA D A Ls xs s.heap (up M a k ((j : Int) + 1)) H1 locs1 → okO SH (up M a k ((j : Int) + 1)) → W p l e R s m args below meth c H1 locs1 cells slots Q (F0 m (pc + 1) ls rest)) : W p l e R s m args below meth c H locs cells slots Q (F0 m pc ls (.ref (G.1 j) :: .int (Int32.ofInt (k : Int)) :: .ref (G.1 a) :: rest)) := by
  refine va_astq hx hb hst.1 hDy.1 hDy.2.1 hDy.2.2.1 a 3 j 6 (r := (RX6, TX6, 8)) (f := fun q : Nat => if M a q = 0 then none else some (G.1 (M a q - 1).toNat)) (xW_at ha) rfl (xW_at hj) rfl (in32 (by omega) (by omega) hk2) hd (fun H1 locs1 hP1 hD1 hS1 => ?_)
  have ef : (fun q : Nat => if up M a k ((j : Int) + 1) a q = 0 then none else some (G.1 (up M a k ((j : Int) + 1) a q - 1).toNat)) = va_up (fun q : Nat => if M a q = 0 then none else some (G.1 (M a q - 1).toNat)) k (some (G.1 j)) := by
    funext q
    by_cases e : q = k
    · subst e
      rw [up_same]
      unfold va_up
      rw [if_pos rfl, if_neg (by omega), show ((j : Int) + 1 - 1).toNat = j by omega]
    · rw [up_off (nat_cast_ne e)]
      unfold va_up
      rw [if_neg e]
  rw [n32' hk2, xW_up (i := (k : Int)) (v := (j : Int) + 1) ha (show xcell G cA (up M a (k : Int) ((j : Int) + 1)) a (14, n) = (Sum.inl (cA 6, n, Sum.inr (Sum.inr (Sum.inr (Sum.inr (va_up (fun q : Nat => if M a q = 0 then none else some (G.1 (M a q - 1).toNat)) k (some (G.1 j))))))) : va_E) from congrArg (fun f => (Sum.inl (cA 6, n, Sum.inr (Sum.inr (Sum.inr (Sum.inr f)))) : va_E)) ef)] at hP1 hD1
  have hjl : j < SH.length := lt_of_at hj
  refine kk H1 locs1 ⟨hP1, hD1, hS1, okM_up hDy.2.2.2.1 ha trivial, xScr_up hDy.2.2.2.2⟩ ⟨fun b n2 hb i => ?_, fun b n2 hb i => ?_⟩
  · by_cases e : b = a
    · subst e
      by_cases e2 : (i : Int) = (k : Int)
      · rw [e2, up_same]; omega
      · rw [up_off e2]; exact hO.1 b n2 hb i
    · rw [up_ne (nat_cast_ne e)]; exact hO.1 b n2 hb i
  · by_cases e : b = a
    · subst e
      rw [ha] at hb
      rcases hb with hb | hb <;> cases hb
    · rw [up_ne (nat_cast_ne e)]; exact hO.2 b n2 hb i
end CRows2

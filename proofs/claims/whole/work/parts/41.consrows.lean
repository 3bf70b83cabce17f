/-! Rows of construction. -/
theorem kd_b : xfs.all (fun fs => fs.all (fun f => Nat.beq f.1 0 || (Nat.beq f.1 1 || [2, 3, 4, 5, 6, 7, 12].contains f.1))) = true := by decide +kernel
theorem hkd : ∀ ci k : Nat, k < (xfs.getD ci []).length → (xfld ci k).1 = 0 ∨ (xfld ci k).1 = 1 ∨ [2, 3, 4, 5, 6, 7, 12].contains (xfld ci k).1 = true := by
  intro ci k hk
  have hci : xfs.getD ci [] ∈ xfs := by
    rw [List.getD_eq_getElem?_getD] at hk ⊢
    cases h : xfs[ci]? with
    | none => rw [h] at hk; exact absurd hk (by simp)
    | some fs => exact List.mem_of_getElem? h
  have h1 := List.all_eq_true.mp kd_b _ hci
  have hm : xfld ci k ∈ xfs.getD ci [] := by
    unfold xfld
    rw [List.getD_eq_getElem?_getD (l := xfs.getD ci []), List.getElem?_eq_getElem hk]
    exact List.getElem_mem hk
  have h2 := List.all_eq_true.mp h1 _ hm
  simp only [Bool.or_eq_true] at h2
  rcases h2 with h2 | h2 | h2
  · exact Or.inl (Nat.eq_of_beq_eq_true h2)
  · exact Or.inr (Or.inl (Nat.eq_of_beq_eq_true h2))
  · exact Or.inr (Or.inr h2)
section CRows
variable {p : Program} {l : Launch} {e : Env} {R : Room} {s : State} {m : MethodId} {args : Array Value} {below : List Frame} {meth : Method} {c : Code} {H : Heap} {locs : List Loc} {cells slots : Nat} {Q : State → Prop}
variable {cc : ByteArray} {pc : Nat} {ls : Array Slot} {rest : List Value} {SH : xSH} {G : xG} {cA : Nat → ClassId} {D : va_G} {A : Nat → Prop} {Ls : Nat} {xs : Nat → Int32} {M : xM}
/-- an array comes -/
theorem c_newa (hx : p.tables.exec = Jvm.exec) (hb : c.code = cc) (hst : xStat G cA D A Ls xs s) (hDy : xDyn SH G cA D A Ls xs s.heap M H locs) (hO : okO SH M) (hz : ∀ j : Nat, M SH.length j = 0) (hA : ∀ q, s.heap.size ≤ q → A q)
    {atype : ArrayType} {ty : FieldType} {t i0 N : Nat} {a0 : vp_A} {n : Int32} (harr : (Cond.arrayClass (newarray.typeOf atype)).before args s = true) (hty : newarray.typeOf atype = ty) (hidx : (xtys cA)[i0]? = some (cA t, ty)) (hno : ∀ C, ty ≠ .object C)
    (hcell : ∀ G' : xG, xcell G' cA M SH.length (t, N) = .inl (cA t, a0)) (ha : ∀ cA : ClassId, vp_cell cA a0 = arrV cA N (fun _ => defaultValue ty)) (hok : okC (SH ++ [(t, N)]) M SH.length (t, N)) (hn : ¬ n < 0) (hN : n.toNatClampNeg = N) (hbytes : N * componentBytes ty ≤ 536870912) (hcells : cells + 1 ≤ R.cells) (hslots : slots + N ≤ R.slots) (hd : decode cc pc = .ok (.newarray atype, 2))
    (kk : ∀ (q : Nat) (H1 : Heap), xDyn (SH ++ [(t, N)]) (gx G SH.length q) cA D A Ls xs s.heap M H1 locs → okO (SH ++ [(t, N)]) M → W p l e R s m args below meth c H1 locs (cells + 1) (slots + N) Q (F0 m (pc + 2) ls (.ref q :: rest))) : W p l e R s m args below meth c H locs cells slots Q (F0 m pc ls (.int n :: rest)) := by
  refine va_newa hx hb harr hty hst.1 hDy.1 hDy.2.1 hDy.2.2.1 hA ha hn hN hbytes hcells hslots hd (fun q cA0 H1 hK1 hP1 hD1 hS1 => ?_)
  have e : cA0 = cA t := by
    have h1 := (hK1.2 (xtys cA).length (cA0, ty) (by rw [List.getElem?_append_right (Nat.le_refl _), Nat.sub_self]; rfl)).2
    have h2 := (hst.1.2 i0 _ hidx).2
    have h3 : va_RA s cA0 ty = (s.vm.findClass ("[" ++ ty.toString) = some cA0) := by
      cases ty <;> first | rfl | exact absurd rfl (hno _)
    have h4 : va_RA s (cA t) ty = (s.vm.findClass ("[" ++ ty.toString) = some (cA t)) := by
      cases ty <;> first | rfl | exact absurd rfl (hno _)
    rw [h3] at h1
    rw [h4] at h2
    exact Option.some.inj (h1.symm.trans h2)
  subst e
  have ew : xW SH G cA M ++ [(q, Sum.inl (cA t, a0))] = xW (SH ++ [(t, N)]) (gx G SH.length q) cA M := by rw [xW_gx hDy.2.2.2.1 hO hkd, hcell]
  rw [ew] at hP1 hD1
  exact kk q H1 ⟨hP1, hD1, hS1, okM_app hDy.2.2.2.1 hok, hDy.2.2.2.2⟩ (okO_app hO hz)
theorem c_newI (hx : p.tables.exec = Jvm.exec) (hb : c.code = cc) (hst : xStat G cA D A Ls xs s) (hDy : xDyn SH G cA D A Ls xs s.heap M H locs) (hO : okO SH M) (hz : ∀ j : Nat, M SH.length j = 0) (hA : ∀ q, s.heap.size ≤ q → A q) {N : Nat} {n : Int32} (harr : (Cond.arrayClass .int).before args s = true) (hn : ¬ n < 0) (hN : n.toNatClampNeg = N) (hbytes : N * 4 ≤ 536870912) (hcells : cells + 1 ≤ R.cells) (hslots : slots + N ≤ R.slots) (hd : decode cc pc = .ok (.newarray .int, 2))
    (kk : ∀ (q : Nat) (H1 : Heap), xDyn (SH ++ [(3, N)]) (gx G SH.length q) cA D A Ls xs s.heap M H1 locs → okO (SH ++ [(3, N)]) M → W p l e R s m args below meth c H1 locs (cells + 1) (slots + N) Q (F0 m (pc + 2) ls (.ref q :: rest))) : W p l e R s m args below meth c H locs cells slots Q (F0 m pc ls (.int n :: rest)) :=
  c_newa (atype := .int) (t := 3) (i0 := 0) (a0 := (N, .inl fun _ => 0)) hx hb hst hDy hO hz hA harr rfl rfl (fun _ h => by cases h) (fun G' => congrArg (fun f => (Sum.inl (cA 3, N, Sum.inl f) : va_E)) (funext fun j => by rw [hz j]; rfl)) (fun _ => rfl) (fun j _ => by rw [hz j]; exact ⟨by decide, by decide⟩) hn hN hbytes hcells hslots hd kk
theorem c_newL (hx : p.tables.exec = Jvm.exec) (hb : c.code = cc) (hst : xStat G cA D A Ls xs s) (hDy : xDyn SH G cA D A Ls xs s.heap M H locs) (hO : okO SH M) (hz : ∀ j : Nat, M SH.length j = 0) (hA : ∀ q, s.heap.size ≤ q → A q) {N : Nat} {n : Int32} (harr : (Cond.arrayClass .long).before args s = true) (hn : ¬ n < 0) (hN : n.toNatClampNeg = N) (hbytes : N * 8 ≤ 536870912) (hcells : cells + 1 ≤ R.cells) (hslots : slots + N ≤ R.slots) (hd : decode cc pc = .ok (.newarray .long, 2))
    (kk : ∀ (q : Nat) (H1 : Heap), xDyn (SH ++ [(4, N)]) (gx G SH.length q) cA D A Ls xs s.heap M H1 locs → okO (SH ++ [(4, N)]) M → W p l e R s m args below meth c H1 locs (cells + 1) (slots + N) Q (F0 m (pc + 2) ls (.ref q :: rest))) : W p l e R s m args below meth c H locs cells slots Q (F0 m pc ls (.int n :: rest)) :=
  c_newa (atype := .long) (t := 4) (i0 := 1) (N := N) (a0 := (N, .inr (.inl fun _ => 0))) hx hb hst hDy hO hz hA harr rfl rfl (fun _ h => by cases h) (fun G' => congrArg (fun f => (Sum.inl (cA 4, N, Sum.inr (Sum.inl f)) : va_E)) (funext fun j => by rw [hz j]; rfl)) (fun _ => rfl) (fun j _ => by rw [hz j]; exact ⟨by decide, by decide⟩) hn hN hbytes hcells hslots hd kk
theorem c_newZ (hx : p.tables.exec = Jvm.exec) (hb : c.code = cc) (hst : xStat G cA D A Ls xs s) (hDy : xDyn SH G cA D A Ls xs s.heap M H locs) (hO : okO SH M) (hz : ∀ j : Nat, M SH.length j = 0) (hA : ∀ q, s.heap.size ≤ q → A q) {N : Nat} {n : Int32} (harr : (Cond.arrayClass .boolean).before args s = true) (hn : ¬ n < 0) (hN : n.toNatClampNeg = N) (hbytes : N * 1 ≤ 536870912) (hcells : cells + 1 ≤ R.cells) (hslots : slots + N ≤ R.slots) (hd : decode cc pc = .ok (.newarray .boolean, 2))
    (kk : ∀ (q : Nat) (H1 : Heap), xDyn (SH ++ [(5, N)]) (gx G SH.length q) cA D A Ls xs s.heap M H1 locs → okO (SH ++ [(5, N)]) M → W p l e R s m args below meth c H1 locs (cells + 1) (slots + N) Q (F0 m (pc + 2) ls (.ref q :: rest))) : W p l e R s m args below meth c H locs cells slots Q (F0 m pc ls (.int n :: rest)) :=
  c_newa (atype := .boolean) (t := 5) (i0 := 2) (a0 := (N, .inl fun _ => 0)) hx hb hst hDy hO hz hA harr rfl rfl (fun _ h => by cases h) (fun G' => congrArg (fun f => (Sum.inl (cA 5, N, Sum.inl f) : va_E)) (funext fun j => by rw [hz j]; rfl)) (fun _ => rfl) (fun j _ => by rw [hz j]; exact ⟨by decide, by decide⟩) hn hN hbytes hcells hslots hd kk
theorem c_newB (hx : p.tables.exec = Jvm.exec) (hb : c.code = cc) (hst : xStat G cA D A Ls xs s) (hDy : xDyn SH G cA D A Ls xs s.heap M H locs) (hO : okO SH M) (hz : ∀ j : Nat, M SH.length j = 0) (hA : ∀ q, s.heap.size ≤ q → A q) {N : Nat} {n : Int32} (harr : (Cond.arrayClass .byte).before args s = true) (hn : ¬ n < 0) (hN : n.toNatClampNeg = N) (hbytes : N * 1 ≤ 536870912) (hcells : cells + 1 ≤ R.cells) (hslots : slots + N ≤ R.slots) (hd : decode cc pc = .ok (.newarray .byte, 2))
    (kk : ∀ (q : Nat) (H1 : Heap), xDyn (SH ++ [(12, N)]) (gx G SH.length q) cA D A Ls xs s.heap M H1 locs → okO (SH ++ [(12, N)]) M → W p l e R s m args below meth c H1 locs (cells + 1) (slots + N) Q (F0 m (pc + 2) ls (.ref q :: rest))) : W p l e R s m args below meth c H locs cells slots Q (F0 m pc ls (.int n :: rest)) :=
  c_newa (atype := .byte) (t := 12) (i0 := 5) (a0 := (N, .inl fun _ => 0)) hx hb hst hDy hO hz hA harr rfl rfl (fun _ h => by cases h) (fun G' => congrArg (fun f => (Sum.inl (cA 12, N, Sum.inl f) : va_E)) (funext fun j => by rw [hz j]; rfl)) (fun _ => rfl) (fun j _ => by rw [hz j]; exact ⟨by decide, by decide⟩) hn hN hbytes hcells hslots hd kk
/-- an object comes, all fields as they begin -/
theorem c_new (hx : p.tables.exec = Jvm.exec) (hb : c.code = cc) (hts : ∀ w ∈ xTT, w.before args s = true) (hst : xStat G cA D A Ls xs s) (hDy : xDyn SH G cA D A Ls xs s.heap M H locs) (hO : okO SH M) (hz : ∀ j : Nat, M SH.length j = 0) (hA : ∀ q, s.heap.size ≤ q → A q) {own C : String} {T : u_T} {N ci index : Nat} (hown : s.vm.findClass own = some m.cls) (hc : xcl[ci]? = some (C, T, N)) (hcl : Cond.classLink own index C ∈ xTT) (hinst : Cond.instantiable C N ∈ xTT) (hini : Cond.initialized C ∈ xTT) (hcells : cells + 1 ≤ R.cells) (hslots : slots + N ≤ R.slots) (hd : decode cc pc = .ok (.new index, 3))
    (hdef : ∀ (ty : Nat → FieldType), (∀ k, k < N → parseFieldDescriptor (T k).2.2.1 = some (ty k)) → ∀ j, j < N → defaultValue (ty j) = (match (xfld ci j).1 with
      | 0 => Value.int 0
      | 1 => Value.long 0
      | _ => Value.null))
    (kk : ∀ (q : Nat) (H1 : Heap), xDyn (SH ++ [(13, ci)]) (gx G SH.length q) cA D A Ls xs s.heap M H1 locs → okO (SH ++ [(13, ci)]) M → W p l e R s m args below meth c H1 locs (cells + 1) (slots + N) Q (F0 m (pc + 3) ls (.ref q :: rest))) : W p l e R s m args below meth c H locs cells slots Q (F0 m pc ls rest) := by
  obtain ⟨hn, hws, -, ty0, hty, -, -⟩ := xcl_ok _ _ hc
  dsimp only at hn hws hty
  have hcf : ∀ (G' : xG) (j : Nat), j < N → (cfl G' M SH.length ci)[j]? = some (match (xfld ci j).1 with
      | 0 => Value.int 0
      | 1 => Value.long 0
      | _ => Value.null) := by
    intro G' j hj
    unfold cfl
    rw [List.getElem?_map, List.getElem?_range (by rw [hn]; exact hj)]
    show some (cfv G' M SH.length j (xfld ci j)) = _
    unfold cfv
    rw [hz j]
    cases xfld ci j with
    | mk kd r =>
      match kd with
      | 0 => rfl
      | 1 => rfl
      | kd + 2 => rfl
  have hsame : ∀ G1 G2 : xG, cfl G1 M SH.length ci = cfl G2 M SH.length ci := by
    intro G1 G2
    apply List.ext_getElem?
    intro j
    by_cases hj : j < N
    · rw [hcf G1 j hj, hcf G2 j hj]
    · rw [List.getElem?_eq_none (by unfold cfl; rw [List.length_map, List.length_range, hn]; omega), List.getElem?_eq_none (by unfold cfl; rw [List.length_map, List.length_range, hn]; omega)]
  refine va_new (ci := ci) (fs := cfl G M SH.length ci) hx hb hts hws ty0 hty hown (hts _ hcl) (hts _ hinst) (hts _ hini) hst.1 hDy.1 hDy.2.1 hDy.2.2.1 hA hc (fun j hj => ?_) hcells hslots hd (fun q H1 hP1 hD1 hS1 => ?_)
  · rw [hdef ty0 hty j hj]
    unfold vp_V
    rw [List.getD_eq_getElem?_getD, hcf G j hj]
    rfl
  · have ew : xW SH G cA M ++ [(q, Sum.inr (ci, cfl G M SH.length ci))] = xW (SH ++ [(13, ci)]) (gx G SH.length q) cA M := by
      rw [xW_gx hDy.2.2.2.1 hO hkd]
      show _ = _ ++ [(q, Sum.inr (ci, cfl (gx G SH.length q) M SH.length ci))]
      rw [hsame G (gx G SH.length q)]
    rw [ew] at hP1 hD1
    exact kk q H1 ⟨hP1, hD1, hS1, okM_app hDy.2.2.2.1 trivial, hDy.2.2.2.2⟩ (okO_app hO hz)
/-- a final field of an open object gets its reference -/
theorem c_put (hx : p.tables.exec = Jvm.exec) (hb : c.code = cc) (hts : ∀ w ∈ xTT, w.before args s = true) (hst : xStat G cA D A Ls xs s) (hDy : xDyn SH G cA D A Ls xs s.heap M H locs) (hO : okO SH M) {own C : String} {T : u_T} {N ci index a j k : Nat} {ty : FieldType} (hown : s.vm.findClass own = some m.cls) (hc : xcl[ci]? = some (C, T, N)) (ha : SH[a]? = some (13, ci)) (hj : j < SH.length) (hk : k < N) (hkd2 : 2 ≤ (xfld ci k).1) (hlk : Cond.fieldLink own index (T k).1 (T k).2.1 (T k).2.2.1 ∈ xTT) (hfin : (T k).2.2.2 = true) (hin2 : meth.name = "<init>") (hdecl : (T k).1 = own) (hd0 : parseFieldDescriptor (T k).2.2.1 = some ty) (hnar : ∀ q, narrow ty (.ref q) = .ref q) (hfit : ∀ q, fits ty (.ref q) = true) (hd : decode cc pc = .ok (.putfield index, 3))
    (kk : ∀ (H1 : Heap) (locs1 : List Loc), xDyn SH G cA D A Ls xs s.heap (up M a k ((j : Int) + 1)) H1 locs1 → okO SH (up M a k ((j : Int) + 1)) → W p l e R s m args below meth c H1 locs1 cells slots Q (F0 m (pc + 3) ls rest)) : W p l e R s m args below meth c H locs cells slots Q (F0 m pc ls (.ref (G.1 j) :: .ref (G.1 a) :: rest)) := by
  obtain ⟨hn, hws, -, ty0, hty, -, hnm⟩ := xcl_ok _ _ hc
  dsimp only at hn hws hty hnm
  have hkl : k < (xfs.getD ci []).length := by rw [hn]; exact hk
  refine va_putF (D := D) hx hb hts hws ty0 hty hnm hown hst.1 hDy.1 hDy.2.1 hDy.2.2.1 a (xW_at ha) hc k hk (hts _ hlk) (fun _ z => z) hfin hin2 hdecl hd0 (hnar _) (hfit _) (by unfold cfl; rw [List.length_map, List.length_range]; exact hkl) hd (fun H1 locs1 hP1 hD1 hS1 => ?_)
  have ec : xcell G cA (up M a k ((j : Int) + 1)) a (13, ci) = (Sum.inr (ci, (cfl G M a ci).set k (.ref (G.1 j))) : va_E) := by
    show Sum.inr (ci, cfl G (up M a k ((j : Int) + 1)) a ci) = _
    congr 2
    apply List.ext_getElem?
    intro i
    by_cases hi : k = i
    · subst hi
      rw [List.getElem?_set_self (by unfold cfl; rw [List.length_map, List.length_range]; exact hkl)]
      unfold cfl
      rw [List.getElem?_map, List.getElem?_range hkl]
      show some (cfv G (up M a k ((j : Int) + 1)) a k (xfld ci k)) = _
      unfold cfv
      rw [up_same]
      revert hkd2
      cases xfld ci k with
      | mk kd r =>
        match kd with
        | 0 => exact fun h => absurd h (by simp)
        | 1 => exact fun h => absurd h (by simp)
        | kd + 2 =>
          intro _
          show some (if ((j : Int) + 1) = 0 then Value.null else .ref (G.1 (((j : Int) + 1) - 1).toNat)) = _
          rw [if_neg (by omega), show (((j : Int) + 1) - 1).toNat = j by omega]
    · rw [List.getElem?_set_ne hi]
      unfold cfl
      by_cases hl : i < (xfs.getD ci []).length
      · rw [List.getElem?_map, List.getElem?_map, List.getElem?_range hl]
        show some (cfv G (up M a k ((j : Int) + 1)) a i (xfld ci i)) = some (cfv G M a i (xfld ci i))
        have e2 : up M a k ((j : Int) + 1) a i = M a i := up_off (fun q => hi (by omega))
        unfold cfv
        simp only [e2]
      · rw [List.getElem?_eq_none (by rw [List.length_map, List.length_range]; omega), List.getElem?_eq_none (by rw [List.length_map, List.length_range]; omega)]
  rw [xW_up ha ec] at hP1 hD1
  refine kk H1 locs1 ⟨hP1, hD1, hS1, okM_up hDy.2.2.2.1 ha trivial, xScr_up hDy.2.2.2.2⟩ ⟨fun b n hb i => ?_, fun b n hb i => ?_⟩
  · by_cases e : b = a
    · subst e
      by_cases e2 : (i : Int) = (k : Int)
      · rw [e2, up_same]; omega
      · rw [up_off e2]; exact hO.1 b n hb i
    · rw [up_ne (nat_cast_ne e)]; exact hO.1 b n hb i
  · by_cases e : b = a
    · subst e
      rw [ha] at hb
      rcases hb with hb | hb <;> cases hb
    · rw [up_ne (nat_cast_ne e)]; exact hO.2 b n hb i
end CRows

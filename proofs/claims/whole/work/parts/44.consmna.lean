/-! CONSTRUCTION: new long[n][17]. -/
theorem mn_outer (c : ClassId) (N h0 : Nat) (i : Nat) : Jvm.Free.Multi.outerC c N h0 i = arrV c N (fun j => va_rf (if j < i then some (h0 + 1 + j) else none)) := by
  induction i with
  | zero =>
    show ({ cls := c, slots := Array.replicate N .null, vm := .none } : Cell) = _
    rw [arrV_new]
    exact congrArg (arrV c N) (funext fun j => by rw [if_neg (by omega)]; rfl)
  | succ i ih =>
    show (Jvm.Free.Multi.outerC c N h0 i).setSlot i (.ref (h0 + 1 + i)) = _
    rw [ih, arrV_store]
    refine congrArg (arrV c N) (funext fun j => ?_)
    unfold updV
    by_cases e : j = i
    · subst e
      rw [if_pos rfl, if_pos (by omega)]
      rfl
    · rw [if_neg e]
      show va_rf (if j < i then some (h0 + 1 + j) else none) = _
      by_cases h : j < i
      · rw [if_pos h, if_pos (by omega)]
      · rw [if_neg h, if_neg (by omega)]
section CRows3
variable {p : Program} {l : Launch} {e : Env} {R : Room} {s : State} {m : MethodId} {args : Array Value} {below : List Frame} {meth : Method} {c : Code} {H : Heap} {locs : List Loc} {cells slots : Nat} {Q : State → Prop}
variable {cc : ByteArray} {pc : Nat} {ls : Array Slot} {rest : List Value} {SH : xSH} {G : xG} {cA : Nat → ClassId} {D : va_G} {A : Nat → Prop} {Ls : Nat} {xs : Nat → Int32} {M : xM}
theorem c_mna (hx : p.tables.exec = Jvm.exec) (hb : c.code = cc) (hst : xStat G cA D A Ls xs s) (hDy : xDyn SH G cA D A Ls xs s.heap M H locs) (hO : okO SH M) (hz : ∀ b : Nat, SH.length ≤ b → ∀ j : Nat, M b j = 0) (hA : ∀ q, s.heap.size ≤ q → A q) {own : String} {index N : Nat} {n k : Int32} (hown : s.vm.findClass own = some m.cls) (hclink : (Cond.classLink own index ("[" ++ (FieldType.array .long).toString)).before args s = true) (hover : (Cond.arrayOver (.array .long)).before args s = true) (harr : (Cond.arrayClass .long).before args s = true) (hn : ¬ n < 0) (hk : ¬ k < 0) (hN : n.toNatClampNeg = N) (hK : k.toNatClampNeg = 17) (hb1 : N * 4 ≤ 536870912) (hcells : cells + (1 + N) ≤ R.cells) (hslots : slots + (N + N * 17) ≤ R.slots) (hd : decode cc pc = .ok (.multianewarray index 2, 4))
    (kk : ∀ (q : Nat) (H1 : Heap), xDyn (mnS SH N) (gxs G SH.length q) cA D A Ls xs s.heap (mnM M SH.length N) H1 locs → okO (mnS SH N) (mnM M SH.length N) → W p l e R s m args below meth c H1 locs (cells + 1 + N) (slots + N + N * 17) Q (F0 m (pc + 4) ls (.ref q :: rest))) : W p l e R s m args below meth c H locs cells slots Q (F0 m pc ls (.int k :: .int n :: rest)) := by
  subst hN
  intro T hT Xs
  obtain ⟨vm₁, c0, comp, -, fA, fC, -, -, X', step⟩ := Jvm.Stand.multianewarray2F Xs hx (ty := .long) hown hclink hover harr (g := F0 m pc ls (.int k :: .int n :: rest)) rfl (by rw [hb]; exact hd) rfl hn hk hb1 (by rw [hK]; decide) (by rw [hK]; decide) rfl rfl hcells (by rw [hK]; exact hslots)
  have e7 : c0 = cA 7 := Option.some.inj (fA.symm.trans (hst.1.2 4 (cA 7, .array .long) rfl).2)
  have e4 : comp = cA 4 := Option.some.inj (fC.symm.trans (hst.1.2 1 (cA 4, .long) rfl).2)
  subst e7
  subst e4
  rw [hK] at X' step
  generalize hF : Jvm.Free.Multi.fill (T.setVm vm₁) (cA 7) (cA 4) n.toNatClampNeg 17 (defaultValue .long) n.toNatClampNeg = F at X' step
  have hTh : (T.setVm vm₁).heap = H := hT
  obtain ⟨f1, f2, -, -⟩ := Jvm.Free.Multi.fill_facts (T.setVm vm₁) (cA 7) (cA 4) n.toNatClampNeg 17 (defaultValue .long) n.toNatClampNeg
  rw [hF, hTh] at f1 f2
  rw [mn_outer] at f2
  have hold : ∀ x : Nat, x < H.size → F.heap[x]? = H[x]? := fun x hx9 => by
    have h9 := Jvm.Free.Multi.fill_old (T.setVm vm₁) (cA 7) (cA 4) n.toNatClampNeg 17 (defaultValue .long) (a := x) (by rw [hTh]; exact hx9) n.toNatClampNeg
    rw [hF, hTh] at h9
    exact h9
  have hrow : ∀ j : Nat, j < n.toNatClampNeg → F.heap[H.size + 1 + j]? = some (vp_cell (cA 4) (17, .inr (.inl fun _ => 0))) := fun j hj => by
    have h9 := Jvm.Free.Multi.fill_inner (T.setVm vm₁) (cA 7) (cA 4) n.toNatClampNeg 17 (defaultValue .long) n.toNatClampNeg j hj
    rw [hF, hTh] at h9
    rw [h9, vp_cell_l, ← arrV_new]
    rfl
  obtain ⟨g1, g2⟩ := xDyn_mn hDy hO hz hA f1 f2 hold hrow
  obtain ⟨t, a1, b1⟩ := kk H.size F.heap g1 g2 F rfl X'
  refine ⟨t, step t ?_, b1⟩
  have e9 : T.heap.size = H.size := by rw [hT]
  rw [e9]
  exact a1
end CRows3

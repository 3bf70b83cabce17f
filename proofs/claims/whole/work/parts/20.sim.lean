theorem isR_9 {v : xV} (h : isR v = true) : v.1 ≠ 9 := by
  intro e
  unfold isR at h
  rw [e] at h
  cases h
theorem st1_len (L : List xV) (i : Nat) (v : xV) : (st1 L i v).length = L.length := by
  unfold st1
  rw [List.length_set, cut1_len]
theorem st2_len (L : List xV) (i : Nat) (v : xV) : (st2 L i v).length = L.length := by
  unfold st2
  rw [List.length_set, List.length_set, cut1_len]
theorem cat1 {G : xG} {v : xV} (h : (!two v) = true) : (mkV G v).category = 1 := by
  rw [two_cat]
  cases hv : two v
  · rfl
  · rw [hv] at h; cases h
theorem u64_ok {SH : xSH} (x : UInt64) : okV SH (xD (x.toNat : Int)) := by
  show 0 ≤ (x.toNat : Int) ∧ (x.toNat : Int) < 18446744073709551616
  have := x.toNat_lt
  omega
theorem nar_z {x : Int} (h : x = 0 ∨ x = 1) : vp_nar .boolean (Int32.ofInt x) = Int32.ofInt x := by rcases h with rfl | rfl <;> rfl
theorem nar_b {x : Int} : vp_nar .byte (Int32.ofInt x) = Int32.ofInt (i2b x) := by
  rw [vp_nar_byte]
  exact (Int32.ofInt_toInt _).symm
theorem strv_ok {SH : xSH} (j : Int) : okV SH (xI (strv j)) := by
  show i32 (strv j)
  unfold strv
  generalize j.toNat = q
  match q with
  | 0 => exact ⟨by decide, by decide⟩
  | 1 => exact ⟨by decide, by decide⟩
  | 2 => exact ⟨by decide, by decide⟩
  | 3 => exact ⟨by decide, by decide⟩
  | 4 => exact ⟨by decide, by decide⟩
  | 5 => exact ⟨by decide, by decide⟩
  | 6 => exact ⟨by decide, by decide⟩
  | n + 7 => exact ⟨by show (-2147483648 : Int) ≤ 0; decide, by show (0 : Int) < 2147483648; decide⟩
theorem chkMa_in {own idx : Nat} {y : MethodName} (h : chkMa own idx y = true) : Cond.methodLink (xcn own) idx y ∈ xTT := by
  unfold chkMa at h
  obtain ⟨q, -, hq⟩ := List.any_eq_true.mp h
  simp only [Bool.and_eq_true, decide_eq_true_eq] at hq
  exact tt_mem hq.2.2 rfl
theorem ma_2 : Cond.initialized "java/lang/Math" ∈ xTT := tt_mem (i := 139) (by decide +kernel) rfl
theorem ma_1 : Cond.static Lib.Math.min.name ∈ xTT := tt_mem (i := 549) (by decide +kernel) rfl
theorem ma_3 : Cond.code Lib.Math.min.name Lib.Math.min.code 2 (some .int) ∈ xTT := tt_mem (i := 550) (by decide +kernel) rfl
theorem mb_1 : Cond.static Lib.MathLoose.max_long.x ∈ xTT := tt_mem (i := 931) (by decide +kernel) rfl
theorem mb_3 : Cond.code Lib.MathLoose.max_long.x Lib.MathLoose.max_long.code 4 (some .long) ∈ xTT := tt_mem (i := 932) (by decide +kernel) rfl
theorem mc_1 : Cond.static Lib.MathLoose.min_long.x ∈ xTT := tt_mem (i := 860) (by decide +kernel) rfl
theorem mc_3 : Cond.code Lib.MathLoose.min_long.x Lib.MathLoose.min_long.code 4 (some .long) ∈ xTT := tt_mem (i := 861) (by decide +kernel) rfl
section XRows
variable {p : Program} {l : Launch} {e : Env} {R : Room} {s : State} {m : MethodId} {args : Array Value} {below : List Frame} {meth : Method} {c : Code} {H : Heap} {locs : List Loc} {cells slots : Nat} {Q : State → Prop}
variable {cc : ByteArray} {pc : Nat} {ls : Array Slot} {rest : List Value} {D : va_G} {cl : List vw_C} {A : Nat → Prop} {a : Nat} {tys : List (ClassId × FieldType)} {ws : va_W} {H0 : Heap}
theorem x_aldr (hexec : p.tables.exec = Jvm.exec) (hb : c.code = cc) (hK : va_K D cl tys s) (hP : va_P D cl ws H) (q0 t0 : Nat) {cA : ClassId} {n : Nat} {f : Nat → Option Nat} (ha : ws[q0]? = some (a, .inl (cA, n, .inr (.inr (.inr (.inr f)))))) (ht : tys[t0]? = some (cA, .array .long)) {i : Int32} (hin : vp_in i n) (hdg : decode cc pc = .ok (.aaload, 1))
    (kk : W p l e R s m args below meth c H locs cells slots Q (F0 m (pc + 1) ls (va_rf (f i.toNatClampNeg) :: rest))) : W p l e R s m args below meth c H locs cells slots Q (F0 m pc ls (.int i :: .ref a :: rest)) := by
  have hlt : i.toNatClampNeg < n := Nat.not_le.mp fun q => hin (Or.inr q)
  exact W.aald (v := va_rf (f i.toNatClampNeg)) (ty := .array .long) hexec hb (hP q0 _ ha) ((hK.2 t0 _ ht).1 n (fun j => va_rf (f j))) rfl (fun q => by cases q) (by show ¬ (i < 0 ∨ (arrV _ _ _).slots.size ≤ _); rw [arrV_size]; exact hin) (by show (arrV _ _ _).slots[_]? = _; rw [arrV_read _ _ hlt]) rfl rfl hdg kk
theorem x_ldcwS (hexec : p.tables.exec = Jvm.exec) (hb : c.code = cc) {own tx : String} {index q : Nat} (hown : s.vm.findClass own = some m.cls) (hZ : vk_R own index tx q s) (hdg : decode cc pc = .ok (.ldc_w index, 3))
    (k : W p l e R s m args below meth c H locs cells slots Q (F0 m (pc + 3) ls (.ref q :: rest))) : W p l e R s m args below meth c H locs cells slots Q (F0 m pc ls rest) := by
  intro T hT X
  obtain ⟨t, a1, b1⟩ := k T hT X
  refine ⟨t, ?_, b1⟩
  obtain ⟨kk, cf, i, a', hk, hcf, hcp, -, hr, hev'⟩ := Cond.stringRef_spec (args := #[]) hown hZ.1
  cases hZ.2.symm.trans hev'
  obtain ⟨k', hk', he⟩ := X.warmed.alike.2.2 _ _ hk
  have hr' : k'.resolved[index]? = some (some (.string q)) := by
    rcases X.warmed.entry hk hk' index with h | ⟨h, -⟩
    · rw [h]; exact hr
    · rw [hr] at h; cases h
  jvm_step X.here [hexec, hb, hdg, ldc_w.wp_string (e := e) (s := T) (f := F0 m pc ls rest) X.here.top hk' (by rw [he]; exact hcf) hcp hr']
  exact a1
theorem x_lif (hexec : p.tables.exec = Jvm.exec) (hb : c.code = cc) {o : ClassFile.Cond} {off : Int} {tgt : Nat} {x y : Int} (hdg : decode cc (pc + 1) = .ok (.ifCond o off, 3)) (ht : ((pc + 1 : Nat) : Int) + off = (tgt : Int)) (hx : i64 x) (hy : i64 y)
    (kt : cnd o x y → W p l e R s m args below meth c H locs cells slots Q (F0 m tgt ls rest)) (kf : ¬ cnd o x y → W p l e R s m args below meth c H locs cells slots Q (F0 m (pc + 4) ls rest)) : W p l e R s m args below meth c H locs cells slots Q (F0 m (pc + 1) ls (.int (lg_cmp (Int64.ofInt x) (Int64.ofInt y)) :: rest)) := by
  cases o with
  | eq => exact lv_if_eq hexec hb hdg ht (fun q => kt ((e64 hx hy).mp ((lg_cmp_eq _ _).mp q))) (fun q => kf (fun z => q ((lg_cmp_eq _ _).mpr ((e64 hx hy).mpr z))))
  | ne => exact lv_if_ne hexec hb hdg ht (fun q => kt (fun z => q ((lg_cmp_eq _ _).mpr ((e64 hx hy).mpr z)))) (fun q => kf (fun z => z ((e64 hx hy).mp ((lg_cmp_eq _ _).mp q))))
  | lt => exact lv_if_lt hexec hb hdg ht (fun q => kt ((l64 hx hy).mp ((lg_cmp_lt _ _).mp q))) (fun q => kf (fun z => q ((lg_cmp_lt _ _).mpr ((l64 hx hy).mpr z))))
  | ge => exact lv_if_ge hexec hb hdg ht (fun q => kt ((le64 hy hx).mp ((lg_cmp_ge _ _).mp q))) (fun q => kf (fun z => q ((lg_cmp_ge _ _).mpr ((le64 hy hx).mpr z))))
  | gt => exact lv_if_gt hexec hb hdg ht (fun q => kt ((l64 hy hx).mp ((lg_cmp_gt _ _).mp q))) (fun q => kf (fun z => q ((lg_cmp_gt _ _).mpr ((l64 hy hx).mpr z))))
  | le => exact lv_if_le hexec hb hdg ht (fun q => kt ((le64 hx hy).mp ((lg_cmp_le _ _).mp q))) (fun q => kf (fun z => q ((lg_cmp_le _ _).mpr ((le64 hx hy).mpr z))))
theorem xSt3_of {G : xG} {cA : Nat → ClassId} {D : va_G} {A : Nat → Prop} {Ls : Nat} {xs : Nat → Int32} {s : State} (hst : xStat G cA D A Ls xs s) : ∃ qv, xSt3 G.2.1 qv A s := by
  obtain ⟨qv, h1, -, -, h4, h5⟩ := hst.2.1
  exact ⟨qv, h1, h4, h5⟩
theorem x_strlen {G : xG} {cA : Nat → ClassId} {D : va_G} {A : Nat → Prop} {Ls : Nat} {xs : Nat → Int32} {own idx : Nat} {ml : Nat} {T : List xV} {L : List xV} (hexec : p.tables.exec = Jvm.exec) (hb : c.code = cc) (hml : c.maxLocals = ml) (hown : s.vm.findClass (xcn own) = some m.cls) (hts : ∀ w ∈ xTT, w.before args s = true) (hst : xStat G cA D A Ls xs s) (hS : va_S A s.heap H locs) (hl1 : ls.size = L.length) (hl2 : L.length = ml) (hf : 8 ≤ R.frames) (hlo : 200 ≤ R.locals) (hc : cells ≤ R.cells) (hsl : slots ≤ R.slots)
    (hI : chkLen own idx = true) (hw : wid T ≤ 8) (hd : decode cc pc = .ok (.invokevirtual idx, 3)) (kk : W p l e R s m args below meth c H locs cells slots Q (F0 m (pc + 3) ls (.int (Int32.ofInt 7) :: T.map (mkV G)))) : W p l e R s m args below meth c H locs cells slots Q (F0 m pc ls (.ref G.2.1 :: T.map (mkV G))) := by
  obtain ⟨qv, hE⟩ := xSt3_of hst
  have hwd : 2 * (F0 m pc ls (.ref G.2.1 :: T.map (mkV G))).monitorRoom + ((T.map (mkV G)).map fun v => v.category).sum ≤ 8 := by
    rw [wid_cat]
    show 2 * 0 + _ ≤ 8
    omega
  simp only [chkLen, Bool.or_eq_true, Bool.and_eq_true] at hI
  rcases hI with ⟨e1, e2⟩ | ⟨e1, e2⟩
  · cases Nat.eq_of_beq_eq_true e1
    cases Nat.eq_of_beq_eq_true e2
    have hown : s.vm.findClass "RouteStrides$Tape" = some m.cls := hown
    exact vp_callSi (W.runV (As := []) (rest := T.map (mkV G)) (C := "java/lang/String") (b := G.2.1) (nL := ml) ⟨hexec, hb, hml, hown, hts⟩ (cJm_length l (q := G.2.1) (qv := qv) (A := A)) ⟨callB_of 0 hts gJ_length rfl rfl rfl (hts _ iJ_length) (hts _ kJ_t_length) ⟨by decide, by decide, by decide +kernel⟩ ⟨Nat.le_trans (m := 8) (by decide) hf, Nat.le_trans (m := 200) (by decide) hlo⟩, hts _ sJ_length, hts _ lJ_length⟩ ⟨fun a U g mk z => ⟨z.1, xSt3_same rfl rfl z.2⟩, vk_recv (i := 0) hE.1 (by decide) hS, fun U hU hW => ⟨rfl, xSt3_warm hW hU hS hE⟩⟩ rfl rfl (hl1.trans hl2) rfl hwd hd ⟨hc, hsl⟩) (fun r hr1 => by subst hr1; exact kk)
  · cases Nat.eq_of_beq_eq_true e1
    cases Nat.eq_of_beq_eq_true e2
    have hown : s.vm.findClass "RouteStridesModel" = some m.cls := hown
    exact vp_callSi (W.runV (As := []) (rest := T.map (mkV G)) (C := "java/lang/String") (b := G.2.1) (nL := ml) ⟨hexec, hb, hml, hown, hts⟩ (cJm_length l (q := G.2.1) (qv := qv) (A := A)) ⟨callB_of 0 hts gJ_length rfl rfl rfl (hts _ iJ_length) (hts _ kJ_m_length) ⟨by decide, by decide, by decide +kernel⟩ ⟨Nat.le_trans (m := 8) (by decide) hf, Nat.le_trans (m := 200) (by decide) hlo⟩, hts _ sJ_length, hts _ lJ_length⟩ ⟨fun a U g mk z => ⟨z.1, xSt3_same rfl rfl z.2⟩, vk_recv (i := 0) hE.1 (by decide) hS, fun U hU hW => ⟨rfl, xSt3_warm hW hU hS hE⟩⟩ rfl rfl (hl1.trans hl2) rfl hwd hd ⟨hc, hsl⟩) (fun r hr1 => by subst hr1; exact kk)
theorem x_charAt {G : xG} {cA : Nat → ClassId} {D : va_G} {A : Nat → Prop} {Ls : Nat} {xs : Nat → Int32} {own idx : Nat} {ml : Nat} {T : List xV} {L : List xV} {j : Int} (hexec : p.tables.exec = Jvm.exec) (hb : c.code = cc) (hml : c.maxLocals = ml) (hown : s.vm.findClass (xcn own) = some m.cls) (hts : ∀ w ∈ xTT, w.before args s = true) (hst : xStat G cA D A Ls xs s) (hS : va_S A s.heap H locs) (hl1 : ls.size = L.length) (hl2 : L.length = ml) (hf : 8 ≤ R.frames) (hlo : 200 ≤ R.locals) (hc : cells ≤ R.cells) (hsl : slots ≤ R.slots)
    (hI : chkAt own idx = true) (hw : wid T ≤ 8) (hj : 0 ≤ j ∧ j < ((7 : Nat) : Int)) (hd : decode cc pc = .ok (.invokevirtual idx, 3)) (kk : W p l e R s m args below meth c H locs cells slots Q (F0 m (pc + 3) ls (.int (Int32.ofInt (strv j)) :: T.map (mkV G)))) : W p l e R s m args below meth c H locs cells slots Q (F0 m pc ls (.int (Int32.ofInt j) :: .ref G.2.1 :: T.map (mkV G))) := by
  obtain ⟨qv, hE⟩ := xSt3_of hst
  obtain ⟨k, rfl, hk⟩ := j_in hj
  have hwd : 2 * (F0 m pc ls (.int (Int32.ofInt (k : Int)) :: .ref G.2.1 :: T.map (mkV G))).monitorRoom + ((T.map (mkV G)).map fun v => v.category).sum ≤ 8 := by
    rw [wid_cat]
    show 2 * 0 + _ ≤ 8
    omega
  simp only [chkAt, Bool.or_eq_true, Bool.and_eq_true] at hI
  rcases hI with ⟨e1, e2⟩ | ⟨e1, e2⟩
  · cases Nat.eq_of_beq_eq_true e1
    cases Nat.eq_of_beq_eq_true e2
    have hown : s.vm.findClass "RouteStrides$Tape" = some m.cls := hown
    exact vp_callSi (W.runV (As := [.int (nI k)]) (rest := T.map (mkV G)) (C := "java/lang/String") (b := G.2.1) (nL := ml) ⟨hexec, hb, hml, hown, hts⟩ (cJm_charAt l (q := G.2.1) (qv := qv) (A := A) hk) ⟨callB_of 1 hts gJ_charAt rfl rfl rfl (hts _ iJ_charAt) (hts _ kJ_t_charAt) ⟨by decide, by decide, by decide +kernel⟩ ⟨Nat.le_trans (m := 8) (by decide) hf, Nat.le_trans (m := 200) (by decide) hlo⟩, hts _ sJ_charAt, hts _ lJ_charAt⟩ ⟨fun a U g mk z => ⟨z.1, xSt3_same rfl rfl z.2⟩, vk_recv (i := 0) hE.1 (by decide) hS, fun U hU hW => ⟨rfl, xSt3_warm hW hU hS hE⟩⟩ rfl rfl (hl1.trans hl2) rfl hwd hd ⟨hc, hsl⟩) (fun r hr1 => by subst hr1; exact kk)
  · cases Nat.eq_of_beq_eq_true e1
    cases Nat.eq_of_beq_eq_true e2
    have hown : s.vm.findClass "RouteStridesModel" = some m.cls := hown
    exact vp_callSi (W.runV (As := [.int (nI k)]) (rest := T.map (mkV G)) (C := "java/lang/String") (b := G.2.1) (nL := ml) ⟨hexec, hb, hml, hown, hts⟩ (cJm_charAt l (q := G.2.1) (qv := qv) (A := A) hk) ⟨callB_of 1 hts gJ_charAt rfl rfl rfl (hts _ iJ_charAt) (hts _ kJ_m_charAt) ⟨by decide, by decide, by decide +kernel⟩ ⟨Nat.le_trans (m := 8) (by decide) hf, Nat.le_trans (m := 200) (by decide) hlo⟩, hts _ sJ_charAt, hts _ lJ_charAt⟩ ⟨fun a U g mk z => ⟨z.1, xSt3_same rfl rfl z.2⟩, vk_recv (i := 0) hE.1 (by decide) hS, fun U hU hW => ⟨rfl, xSt3_warm hW hU hS hE⟩⟩ rfl rfl (hl1.trans hl2) rfl hwd hd ⟨hc, hsl⟩) (fun r hr1 => by subst hr1; exact kk)
theorem x_d2l {G : xG} {cA : Nat → ClassId} {D : va_G} {A : Nat → Prop} {Ls : Nat} {xs : Nat → Int32} {ml : Nat} {T : List xV} {L : List xV} {x : Int} (hexec : p.tables.exec = Jvm.exec) (hb : c.code = cc) (hml : c.maxLocals = ml) (hown : s.vm.findClass (xcn 9) = some m.cls) (hts : ∀ w ∈ xTT, w.before args s = true) (hst : xStat G cA D A Ls xs s) (hS : va_S A s.heap H locs) (hl1 : ls.size = L.length) (hl2 : L.length = ml) (hf : 8 ≤ R.frames) (hlo : 200 ≤ R.locals) (hc : cells ≤ R.cells) (hsl : slots ≤ R.slots)
    (hk : dok x) (hw : wid T ≤ 8) (hd : decode cc pc = .ok (.invokestatic 481, 3)) (kk : W p l e R s m args below meth c H locs cells slots Q (F0 m (pc + 3) ls (.long (Int64.ofInt (d2l x)) :: T.map (mkV G)))) : W p l e R s m args below meth c H locs cells slots Q (F0 m pc ls (.double (UInt64.ofNat x.toNat) :: T.map (mkV G))) := by
  have hwd : 2 * (F0 m pc ls (.double (UInt64.ofNat x.toNat) :: T.map (mkV G))).monitorRoom + ((T.map (mkV G)).map fun v => v.category).sum ≤ 8 := by
    rw [wid_cat]
    show 2 * 0 + _ ≤ 8
    omega
  have hown : s.vm.findClass "RouteStridesModel" = some m.cls := hown
  unfold d2l at kk
  rw [Int64.ofInt_toInt] at kk
  exact vp_callSl (W.runS (As := [.double (UInt64.ofNat x.toNat)]) (rest := T.map (mkV G)) (nL := ml) ⟨hexec, hb, hml, hown, hts⟩ (cJm_d2lb l (A := A) hk) ⟨callB_of 1 hts gJ_d2lb rfl rfl rfl (hts _ iJ_d2lb) (hts _ kJ_m_d2lb) ⟨by decide, by decide, by decide +kernel⟩ ⟨Nat.le_trans (m := 8) (by decide) hf, Nat.le_trans (m := 200) (by decide) hlo⟩, hts _ sJ_d2lb⟩ ⟨fun a U g mk z => z, fun U hU hW => ⟨rfl, trivial⟩⟩ rfl rfl (hl1.trans hl2) rfl hwd hd ⟨hc, hsl⟩) (fun r hr1 => by subst hr1; exact kk)
end XRows
-- calls
theorem sd_i {d : Nat} {k : Nat → Prop} (h : sd d k) : ∃ n, d = n + 1 ∧ k n := by
  unfold sd at h; split at h
  · exact h.elim
  · exact ⟨_, rfl, h⟩
def xov (G : xG) (r : xV) : Option Value := match r.1 with
  | 9 => none
  | _ => some (mkV G r)
def xRk (b : Nat) (r : xV) : Prop := match r.1 with
  | 0 => b = 0 ∨ b = 1
  | 1 => b = 2
  | 9 => b = 3
  | _ => False
def xQc (SH : xSH) (G : xG) (cA : Nat → ClassId) (D : va_G) (A : Nat → Prop) (Ls : Nat) (xs : Nat → Int32) (b : Nat) (q : xQ) : Array Value → State → Outcome → State → Prop := fun _ st o t =>
  (∃ r N, o = .returned (xov G r) ∧ q r N ∧ okV SH r ∧ xRk b r ∧ va_P D xcl (xW SH G cA N) t.heap ∧ va_D A (xW SH G cA N) ∧ okM SH N ∧ xScr Ls xs N) ∧ va_F A st t
theorem lay1_args (G : xG) : ∀ (as : List xV) (j i : Nat) (v : xV), (lay1 as)[i]? = some v → v.1 ≠ 9 → (j + i, mkV G v) ∈ lv_args j (as.map (mkV G))
  | [], _, _, _, h, _ => by simp [lay1] at h
  | w :: ws, j, i, v, h, h9 => by
    rw [List.map_cons, lv_args, two_cat]
    rw [lay1] at h
    cases hw : two w with
    | true =>
      rw [hw] at h
      match i, h with
      | 0, h => cases h; exact List.mem_cons_self
      | 1, h => cases h; exact absurd rfl h9
      | i + 2, h =>
        refine List.mem_cons_of_mem _ ?_
        have := lay1_args G ws (j + 2) i v h h9
        rw [show j + 2 + i = j + (i + 2) by omega] at this
        exact this
    | false =>
      rw [hw] at h
      match i, h with
      | 0, h => cases h; exact List.mem_cons_self
      | i + 1, h =>
        refine List.mem_cons_of_mem _ ?_
        have := lay1_args G ws (j + 1) i v h h9
        rw [show j + 1 + i = j + (i + 1) by omega] at this
        exact this
theorem lay1_len (G : xG) : ∀ as : List xV, (lg_sl (as.map (mkV G))).length = (lay1 as).length
  | [] => rfl
  | w :: ws => by
    have ih := lay1_len G ws
    unfold lg_sl at ih ⊢
    rw [List.map_cons, List.flatMap_cons, List.length_append, ih, two_cat, lay1]
    cases two w <;> simp <;> omega
theorem lay_len {as : List xV} {n : Nat} (h : (lay1 as).length ≤ n) : (lay as n).length = n := by
  unfold lay
  rw [List.length_append, List.length_replicate]
  omega
theorem LR_entry {G : xG} {as : List xV} {n : Nat} (h : (lay1 as).length ≤ n) : LR G ((lg_sl (as.map (mkV G)) ++ List.replicate (n - (lg_sl (as.map (mkV G))).length) Slot.unset).toArray) (lay as n) := by
  have hl := lv_entry (as.map (mkV G)) (n := n) (by rw [lay1_len]; exact h)
  refine ⟨by rw [hl.1, lay_len h], hl.2.1, fun i v hi h9 => ?_⟩
  unfold lay at hi
  by_cases hlt : i < (lay1 as).length
  · rw [List.getElem?_append_left hlt] at hi
    have := hl.2.2 _ (lay1_args G as 0 i v hi h9)
    simpa using this
  · rw [List.getElem?_append_right (by omega)] at hi
    have := List.mem_of_getElem? hi
    rw [List.eq_of_mem_replicate this] at h9
    exact absurd rfl h9
theorem okV_lay {SH : xSH} {n : Nat} : ∀ {as : List xV}, (∀ v ∈ as, okV SH v) → ∀ v ∈ lay as n, okV SH v := by
  intro as h v hv
  unfold lay at hv
  rcases List.mem_append.mp hv with q | q
  · have : ∀ (bs : List xV), (∀ v ∈ bs, okV SH v) → ∀ v ∈ lay1 bs, okV SH v := by
      intro bs
      induction bs with
      | nil => intro _ v hv; simp [lay1] at hv
      | cons w ws ih =>
        intro hb v hv
        obtain ⟨hw, hws⟩ := okt hb
        rw [lay1] at hv
        cases h2 : two w with
        | true =>
          rw [h2] at hv
          rcases List.mem_cons.mp hv with e | e
          · rw [e]; exact hw
          · rcases List.mem_cons.mp e with e | e
            · rw [e]; trivial
            · exact ih hws v e
        | false =>
          rw [h2] at hv
          rcases List.mem_cons.mp hv with e | e
          · rw [e]; exact hw
          · exact ih hws v e
    exact this as h v q
  · rw [List.eq_of_mem_replicate q]; trivial
theorem xStat_same {G : xG} {cA : Nat → ClassId} {D : va_G} {A : Nat → Prop} {Ls : Nat} {xs : Nat → Int32} {u U : State} (hv : U.vm = u.vm) (hh : U.heap = u.heap) (h : xStat G cA D A Ls xs u) : xStat G cA D A Ls xs U := by
  have ha : u.vm.Alike U.vm := by rw [hv]; exact Vm.Alike.refl _
  obtain ⟨h1, ⟨qv, h2, h3, h4, h5, h6⟩, h7, h8, h9, h10⟩ := h
  exact ⟨va_K.moved ha h1, ⟨qv, by rw [hh]; exact vk_S.moved ha h2, vk_R.same hv h3, vk_R.same hv h4, by rw [hh]; exact va_Z.moved ha h5, by rw [hh]; exact va_Zq.moved ha h6⟩, by rw [hh]; exact va_X.moved ha h7, by rw [hh]; exact h8, h9, fun o i y hm => va_Nw.same rfl hv.symm (h10 o i y hm)⟩
theorem xStat_warm {G : xG} {cA : Nat → ClassId} {D : va_G} {A : Nat → Prop} {Ls : Nat} {xs : Nat → Int32} {s U : State} {H : Heap} {locs : List Loc} (hW : s.WarmedH U.vm) (hh : U.heap = H) (hS : va_S A s.heap H locs) (h : xStat G cA D A Ls xs s) : xStat G cA D A Ls xs U := by
  have ha : s.vm.Alike U.vm := hW.alike
  obtain ⟨h1, ⟨qv, h2, h3, h4, h5, h6⟩, h7, h8, h9, h10⟩ := h
  exact ⟨va_K.moved ha h1, ⟨qv, by rw [hh]; exact (vk_S.moved ha h2).kept hS.2.1, vk_R.warm hW h3, vk_R.warm hW h4, by rw [hh]; exact (va_Z.moved ha h5).kept hS.2.1, by rw [hh]; exact (va_Zq.moved ha h6).kept hS.2.1⟩, by rw [hh]; exact (va_X.moved ha h7).kept (hS.2.1 _ h8 h9), by rw [hh]; exact Nat.lt_of_lt_of_le h8 hS.1, h9, fun o i y hm => va_Nw.warmM hW (h10 o i y hm)⟩
theorem bol_0 {r : Option FieldType} (h : bol r = 0) : r = some .int := by
  unfold bol at h; split at h <;> first | rfl | (cases h; done)
theorem bol_1 {r : Option FieldType} (h : bol r = 1) : r = some .boolean := by
  unfold bol at h; split at h <;> first | rfl | (cases h; done)
theorem bol_2 {r : Option FieldType} (h : bol r = 2) : r = some .long := by
  unfold bol at h; split at h <;> first | rfl | (cases h; done)
theorem bol_3 {r : Option FieldType} (h : bol r = 3) : r = none := by
  unfold bol at h; split at h <;> first | rfl | (cases h; done)
theorem code_mem {t : xT} (h : xtok t = true) : Cond.code t.2.2.1 (xbyt t.2.2.2.2.2.1) t.2.2.2.1 t.2.2.2.2.1 ∈ xTT := by
  obtain ⟨own, st, y, maxL, ret, pc, pi, pk, ps, np⟩ := t
  simp only [xtok, Bool.and_eq_true] at h
  have h2 := h.2.1
  unfold xbyt
  dsimp only
  cases hl : lw_tbl[pc]? with
  | none => rw [hl] at h2; cases h2
  | some w =>
    rw [hl] at h2
    cases w <;> first | (cases h2; done) | skip
    simp only [Bool.and_eq_true, decide_eq_true_eq] at h2
    obtain ⟨e1, e2, e3⟩ := h2
    subst e1; subst e2; subst e3
    exact tt_mem hl rfl
theorem sMv_i {n : Nat} {A B C : Prop} (h : sMv n A B C) : (n = 9001 ∧ A) ∨ (n = 9002 ∧ B) ∨ (n ≠ 9001 ∧ n ≠ 9002 ∧ C) := by
  unfold sMv at h; split at h
  · exact Or.inl ⟨rfl, h⟩
  · exact Or.inr (Or.inl ⟨rfl, h⟩)
  · rename_i h1 h2
    exact Or.inr (Or.inr ⟨h1, h2, h⟩)
theorem sMs_i {n : Nat} {A B B2 B3 C : Prop} (h : sMs n A B B2 B3 C) : (n = 9003 ∧ A) ∨ (n = 9004 ∧ B) ∨ (n = 9005 ∧ B2) ∨ (n = 9006 ∧ B3) ∨ (n ≠ 9003 ∧ n ≠ 9004 ∧ n ≠ 9005 ∧ n ≠ 9006 ∧ C) := by
  unfold sMs at h; split at h
  · exact Or.inl ⟨rfl, h⟩
  · exact Or.inr (Or.inl ⟨rfl, h⟩)
  · exact Or.inr (Or.inr (Or.inl ⟨rfl, h⟩))
  · exact Or.inr (Or.inr (Or.inr (Or.inl ⟨rfl, h⟩)))
  · rename_i h1 h2 h3 h4
    exact Or.inr (Or.inr (Or.inr (Or.inr ⟨h1, h2, h3, h4, h⟩)))
theorem x_back {SH : xSH} {G : xG} {cA : Nat → ClassId} {D : va_G} {A : Nat → Prop} {Ls : Nat} {xs : Nat → Int32} {p : Program} {l : Launch} {e : Env} {R : Room} {s : State} {m : MethodId} {args : Array Value} {below : List Frame} {meth : Method} {c : Code} {H : Heap} {locs : List Loc} {cells slots : Nat} {Q : State → Prop} {pc b : Nat} {ls : Array Slot} {rest st0 : List Value} {a : Array Value} {q : xQ}
    (hr : va_Run p l e R s m args below meth c H locs cells slots 0 0 (F0 m pc ls st0) rest (xQc SH G cA D A Ls xs b q a) A) (hS : va_S A s.heap H locs)
    (kk : ∀ (r : xV) (N : xM) (H1 : Heap) (locs1 : List Loc), q r N → okV SH r → xRk b r → xDyn SH G cA D A Ls xs s.heap N H1 locs1 → W p l e R s m args below meth c H1 locs1 cells slots Q (F0 m (pc + 3) ls ((xov G r).toList ++ rest))) : W p l e R s m args below meth c H locs cells slots Q (F0 m pc ls st0) := by
  intro T hT X
  obtain ⟨v, st₀, t, T', L, h0, X', hL, e1, e2, ⟨⟨r, N, hv, hq, ho, hk2, hP, hD, hM, hSc⟩, hz, hk⟩, st⟩ := hr T hT X
  cases hv
  rw [h0] at hz hk
  obtain ⟨t2, a1, b1⟩ := kk r N T'.heap (locs ++ L) hq ho hk2 ⟨by rw [e1]; exact hP, hD, ⟨Nat.le_trans hS.1 (by rw [e1]; exact hz), fun q h1 h2 => by rw [e1, hk q (Nat.lt_of_lt_of_le h1 hS.1) h2]; exact hS.2.1 q h1 h2, fun q hq => by
      rcases List.mem_append.mp hq with h | h
      · exact hS.2.2 q h
      · exact hL q h⟩, hM, hSc⟩ T' rfl X'
  exact ⟨t2, st t2 a1, b1⟩
theorem push_eq {G : xG} {b a4 : Nat} {r : xV} {T : List xV} {ret : Option FieldType} (hb : b = bol ret) (hk : xRk b r) (h4 : ret4 a4 ret = true) : (xov G r).toList ++ T.map (mkV G) = (pushr a4 r T).map (mkV G) := by
  subst hb
  obtain ⟨tg, n, x⟩ := r
  unfold xRk at hk
  dsimp only at hk
  cases a4 with
  | zero =>
    have e : ret = none := of_decide_eq_true h4
    subst e
    split at hk
    · rcases hk with hk | hk <;> cases hk
    · cases hk
    · rfl
    · exact hk.elim
  | succ n =>
    have e : ret ≠ none := of_decide_eq_true h4
    split at hk
    · rfl
    · rfl
    · exact absurd (bol_3 hk) e
    · exact hk.elim
theorem okV_push {SH : xSH} {a4 : Nat} {r : xV} {T : List xV} (hr : okV SH r) (hT : ∀ v ∈ T, okV SH v) : ∀ v ∈ pushr a4 r T, okV SH v := by
  unfold pushr
  split
  · exact hT
  · exact okc hr hT
theorem map_split (G : xG) (S : List xV) (n : Nat) : S.map (mkV G) = (((S.take n).reverse).map (mkV G)).reverse ++ (S.drop n).map (mkV G) := by
  rw [List.map_reverse, List.reverse_reverse, ← List.map_append, List.take_append_drop]
theorem mts_len : mts.length = 264 := by decide +kernel
set_option maxRecDepth 100000 in
theorem mts_tok {k : Nat} {t : xT} (h : mts[k]? = some t) (hk : k ≠ kLaw_law) : xtok t = true := by
  have hlt : k < 264 := by
    have := (List.getElem?_eq_some_iff.mp h).1
    rw [mts_len] at this
    exact this
  have key : ∀ t ∈ mts.take 263, xtok t = true := by
    have e : mts.take 263 = mts_0 ++ mts_1 ++ mts_2 ++ mts_3 ++ mts_4 ++ mts_5 ++ mts_6.dropLast := by rfl
    rw [e]
    intro t ht
    simp only [List.mem_append] at ht
    rcases ht with ((((((h | h) | h) | h) | h) | h) | h)
    · exact List.all_eq_true.mp mts_ok_0 t h
    · exact List.all_eq_true.mp mts_ok_1 t h
    · exact List.all_eq_true.mp mts_ok_2 t h
    · exact List.all_eq_true.mp mts_ok_3 t h
    · exact List.all_eq_true.mp mts_ok_4 t h
    · exact List.all_eq_true.mp mts_ok_5 t h
    · exact List.all_eq_true.mp mts_ok_6 t h
  refine key t (List.mem_of_getElem? (i := k) ?_)
  rw [List.getElem?_take_of_lt (by have : k ≠ 263 := hk; omega)]
  exact h
theorem mts_max : mts.all (fun t => Nat.ble t.2.2.2.1 40) = true := by decide +kernel
theorem x_met {SH : xSH} {G : xG} {cA : Nat → ClassId} {D : va_G} {A : Nat → Prop} {Ls : Nat} {xs : Nat → Int32} {l : Launch} {k d : Nat} {t : xT} {M : xM} {q : xQ} {as : List xV} (hk : mts[k]? = some t) (hnl : k ≠ kLaw_law) (ht : xtok t = true) (hl : (lay1 as).length ≤ t.2.2.2.1) (hok : ∀ v ∈ as, okV SH v) (hD : va_D A (xW SH G cA M)) (hM : okM SH M) (hS : xScr Ls xs M)
    (h : xSim SH G cA D A Ls xs l d k 0 (lay as t.2.2.2.1) [] M q) :
    Met l t.2.2.1 (Cond.code t.2.2.1 (xbyt t.2.2.2.2.2.1) t.2.2.2.1 t.2.2.2.2.1 :: xTT) { frames := d + 8, cells := 0, slots := 0, locals := 60 * d + 200 } (va_Pc (as.map (mkV G)) (fun U => xStat G cA D A Ls xs U ∧ va_P D xcl (xW SH G cA M) U.heap)) (xQc SH G cA D A Ls xs (bol t.2.2.2.2.1) q) 0 0 A := by
  have ht2 := ht
  obtain ⟨own, st, y, maxL, ret, pc, pi, pk, ps, np⟩ := t
  simp only [xtok, Bool.and_eq_true, decide_eq_true_eq] at ht2
  obtain ⟨hcn, -, -, -, hpl, -⟩ := ht2
  refine Met.ofW (cc := xbyt pc) (maxL := maxL) (ret := ret) hpl rfl ?_
  intro p e s m args below meth c s₁ B hml hv
  obtain ⟨rfl, hst, hP0⟩ := hv
  have hts := atoms_spec (ws := Cond.code y (xbyt pc) maxL ret :: xTT) B.pre
  have hown : s.vm.findClass y.cls = some m.cls := findClass_of_methodNamed B.named
  have hr := B.returns
  have hlocks := B.notSynchronized
  rw [lg_entry_eq]
  refine h _ p e _ s m _ below meth c 0 0 _ ⟨hk, B.exec, ?_, hml, ?_, fun w hw => hts w (List.mem_cons_of_mem _ hw), hst, Nat.le_refl _, Nat.le_refl _, Nat.le_refl _, Nat.le_refl _⟩ ?_ s.heap [] _ ⟨hP0, hD, va_S.rf, hM, hS⟩ (LR_entry hl) (lay_len hl) (okV_lay hok) (fun _ hv => by cases hv)
  · rw [xcc, if_neg hnl]; exact B.bytes
  · rw [hcn]; exact hown
  · intro v N H locs pc' ls ins hq hv hdy hd hret
    have hb : c.code = xcc k (own, st, y, maxL, ret, pc, pi, pk, ps, np) := by rw [xcc, if_neg hnl]; exact B.bytes
    obtain ⟨tg, n, x⟩ := v
    unfold xRet at hret
    dsimp only at hret
    have fin : ∀ (o : Option Value) (hov : o = xov G (tg, n, x)) (hk2 : xRk (bol ret) (tg, n, x)) (u : State), u.heap = H → s.WarmedH u.vm → xQc SH G cA D A Ls xs (bol ret) q (as.map (mkV G)).toArray s (.returned o) u := fun o hov hk2 u hu hW => ⟨⟨(tg, n, x), N, by rw [hov], hq, hv, hk2, by rw [hu]; exact hdy.1, hdy.2.1, hdy.2.2.2.1, hdy.2.2.2.2⟩, hdy.2.2.1.F hu⟩
    split at hret
    · obtain ⟨rfl, h2⟩ := hret
      rcases h2 with h2 | ⟨h2, h3⟩
      · have e := bol_0 h2
        subst e
        exact W.iret (v := Int32.ofInt x) B.exec hb hr (fin _ rfl (Or.inl rfl)) hdy.2.2.1.2.2 hd
      · have e := bol_1 h2
        subst e
        exact W.zret (v := Int32.ofInt x) B.exec hb hr (by rcases h3 with h3 | h3 <;> (have h3 : x = _ := h3; subst h3; rfl)) (fin _ rfl (Or.inr rfl)) hdy.2.2.1.2.2 hd
    · obtain ⟨rfl, h2⟩ := hret
      have e := bol_2 h2
      subst e
      exact W.lret (v := Int64.ofInt x) B.exec hb hr (fin _ rfl rfl) hdy.2.2.1.2.2 hd
    · obtain ⟨rfl, h2⟩ := hret
      have e := bol_3 h2
      subst e
      exact W.vret B.exec hb hr (fin _ rfl rfl) hdy.2.2.1.2.2 hd
    · exact hret.elim
set_option maxHeartbeats 8000000 in
set_option maxRecDepth 20000 in
theorem xSim_closed {SH : xSH} {G : xG} {cA : Nat → ClassId} {D : va_G} {A : Nat → Prop} {Ls : Nat} {xs : Nat → Int32} {l : Launch}
    (hAll : ∀ (k : Nat) (t : xT), mts[k]? = some t → ∀ e ∈ xC k, chkI t.1 (bol t.2.2.2.2.1) t.2.2.2.1 e = true ∧ chkD (xcc k t) e = true) : xClosed xC (xSim SH G cA D A Ls xs l) := by
  intro d k L S M Q e0 he0 h t p e R s m args below meth c cells slots Qf hC hH H locs ls hDy hL hlen hLo hSo
  obtain ⟨hmt, hx, hb, hml, hown, hts, hst, hrf, hrl, hrc, hrs⟩ := id hC
  obtain ⟨hI, hDd⟩ := hAll k t hmt e0 he0
  have go : ∀ {pc' : Nat} {L' S' : List xV} {M' : xM} {H' : Heap} {locs' : List Loc} {ls' : Array Slot}, xSim SH G cA D A Ls xs l d k pc' L' S' M' Q → xDyn SH G cA D A Ls xs s.heap M' H' locs' → LR G ls' L' → L'.length = t.2.2.2.1 → (∀ v ∈ L', okV SH v) → (∀ v ∈ S', okV SH v) → W p l e R s m args below meth c H' locs' cells slots Qf (F0 m pc' ls' (S'.map (mkV G))) := fun h1 h2 h3 h4 h5 h6 => h1 t p e R s m args below meth c cells slots Qf hC hH _ _ _ h2 h3 h4 h5 h6
  obtain ⟨pc, ins, len, a1, a2, a3, a4, c0, ts⟩ := e0
  cases ins <;> try (exact h.elim)
  case iconst n =>
    simp only [chkI, Bool.and_eq_true, decide_eq_true_eq] at hI
    obtain ⟨h1, h2, h3⟩ := hI
    cases Nat.eq_of_beq_eq_true h1
    have hd := of_decide_eq_true hDd
    subst h2
    exact lv_iconst hx hb hd rfl (go h hDy hL hlen hLo (okc (r32_i h3) hSo))
  case bipush n =>
    simp only [chkI, Bool.and_eq_true, decide_eq_true_eq] at hI
    obtain ⟨h1, h2, h3⟩ := hI
    cases Nat.eq_of_beq_eq_true h1
    have hd := of_decide_eq_true hDd
    exact lv_bipush hx hb hd h2 (go h hDy hL hlen hLo (okc (r32_i h3) hSo))
  case sipush n =>
    simp only [chkI, Bool.and_eq_true, decide_eq_true_eq] at hI
    obtain ⟨h1, h2, h3⟩ := hI
    cases Nat.eq_of_beq_eq_true h1
    have hd := of_decide_eq_true hDd
    exact lv_sipush hx hb hd h2 (go h hDy hL hlen hLo (okc (r32_i h3) hSo))
  case lconst n =>
    simp only [chkI, Bool.and_eq_true, decide_eq_true_eq] at hI
    obtain ⟨h1, h2⟩ := hI
    cases Nat.eq_of_beq_eq_true h1
    have hd := of_decide_eq_true hDd
    subst h2
    refine lv_lconst hx hb hd (v := Int64.ofInt ((n : Nat) : Int)) (by rfl) (go h hDy hL hlen hLo (okc ?_ hSo))
    show i64 ((n : Nat) : Int)
    exact ⟨by have := n.isLt; omega, by have := n.isLt; omega⟩
  case ldc idx =>
    simp only [chkI, Bool.and_eq_true] at hI
    obtain ⟨h1, h2⟩ := hI
    cases Nat.eq_of_beq_eq_true h1
    have hd := of_decide_eq_true hDd
    replace h := sZ_i h
    rcases h with ⟨rfl, h⟩ | ⟨hne, h⟩
    · try dsimp only at h2
      cases hc : cls_[ts.headD 0]? with
      | none => rw [hc] at h2; cases h2
      | some q =>
        obtain ⟨o, i, kd, v, pos⟩ := q
        rw [hc] at h2
        simp only [Bool.and_eq_true, decide_eq_true_eq] at h2
        obtain ⟨e1, e2, e3, e4⟩ := h2
        cases Nat.eq_of_beq_eq_true e1
        cases Nat.eq_of_beq_eq_true e2
        cases Nat.eq_of_beq_eq_true e3
        subst e4
        have h5 := cls_at hc
        simp only [xcok, Bool.and_eq_true, decide_eq_true_eq] at h5
        exact lv_ldc hx hb hown (hts _ (tt_mem h5.2.2 rfl)) hd (go h hDy hL hlen hLo (okc ⟨h5.1, h5.2.1⟩ hSo))
    · obtain ⟨qv, hs1, hs2, hs3, hs4⟩ := hst.2.1
      cases a1 with
      | zero => exact absurd rfl hne
      | succ a1 =>
        simp only [Bool.and_eq_true] at h2
        have e1 := Nat.eq_of_beq_eq_true h2.1
        have e2 := Nat.eq_of_beq_eq_true h2.2
        subst e2
        rw [e1] at hown
        exact va_ldcS hx hb hown hs2 hd (go h hDy hL hlen hLo (okc trivial hSo))
  case ldc_w idx =>
    simp only [chkI, Bool.and_eq_true] at hI
    obtain ⟨h1, h2⟩ := hI
    cases Nat.eq_of_beq_eq_true h1
    have hd := of_decide_eq_true hDd
    replace h := sZ_i h
    rcases h with ⟨rfl, h⟩ | ⟨hne, h⟩
    · try dsimp only at h2
      cases hc : cls_[ts.headD 0]? with
      | none => rw [hc] at h2; cases h2
      | some q =>
        obtain ⟨o, i, kd, v, pos⟩ := q
        rw [hc] at h2
        simp only [Bool.and_eq_true, decide_eq_true_eq] at h2
        obtain ⟨e1, e2, e3, e4⟩ := h2
        cases Nat.eq_of_beq_eq_true e1
        cases Nat.eq_of_beq_eq_true e2
        cases Nat.eq_of_beq_eq_true e3
        subst e4
        have h5 := cls_at hc
        simp only [xcok, Bool.and_eq_true, decide_eq_true_eq] at h5
        exact lv_ldcw hx hb hown (hts _ (tt_mem h5.2.2 rfl)) hd (go h hDy hL hlen hLo (okc ⟨h5.1, h5.2.1⟩ hSo))
    · obtain ⟨qv, hs1, hs2, hs3, hs4⟩ := hst.2.1
      cases a1 with
      | zero => exact absurd rfl hne
      | succ a1 =>
        simp only [Bool.and_eq_true] at h2
        have e1 := Nat.eq_of_beq_eq_true h2.1
        have e2 := Nat.eq_of_beq_eq_true h2.2
        subst e2
        rw [e1] at hown
        exact x_ldcwS hx hb hown hs3 hd (go h hDy hL hlen hLo (okc trivial hSo))
  case ldc2_w idx =>
    simp only [chkI, Bool.and_eq_true] at hI
    obtain ⟨h1, h2⟩ := hI
    cases Nat.eq_of_beq_eq_true h1
    have hd := of_decide_eq_true hDd
    cases hc : cls_[ts.headD 0]? with
    | none => rw [hc] at h2; cases h2
    | some q =>
      obtain ⟨o, i, kd, v, pos⟩ := q
      rw [hc] at h2
      simp only [Bool.and_eq_true, decide_eq_true_eq] at h2
      obtain ⟨e1, e2, e3, e4⟩ := h2
      cases Nat.eq_of_beq_eq_true e1
      cases Nat.eq_of_beq_eq_true e2
      subst e4
      have h5 := cls_at hc
      replace h := sZ_i h
      rcases h with ⟨rfl, h⟩ | ⟨hne, h⟩
      · cases Nat.eq_of_beq_eq_true e3
        simp only [xcok, Bool.and_eq_true, decide_eq_true_eq] at h5
        exact lv_ldc2 hx hb hown (hts _ (tt_mem h5.2.2 rfl)) hd (go h hDy hL hlen hLo (okc ⟨h5.1, h5.2.1⟩ hSo))
      · cases a1 with
        | zero => exact absurd rfl hne
        | succ a1 =>
          cases Nat.eq_of_beq_eq_true e3
          simp only [xcok, Bool.and_eq_true, decide_eq_true_eq] at h5
          exact lv_ldc2d hx hb hown (hts _ (tt_mem h5.2.2 rfl)) hd (go h hDy hL hlen hLo (okc ⟨h5.1, h5.2.1⟩ hSo))
  case iload_n n =>
    simp only [chkI, Bool.and_eq_true, decide_eq_true_eq] at hI
    obtain ⟨h1, h2⟩ := hI
    cases Nat.eq_of_beq_eq_true h1
    have hd := of_decide_eq_true hDd
    subst h2
    replace h := sI_i h
    obtain ⟨n0, x, T, e1, h⟩ := h
    obtain ⟨e1, -⟩ := List.cons.inj e1
    have hat := getD_at e1 (by simp)
    have hv := okV_mem hLo hat
    exact lv_iload_n hx hb hd rfl (hL.2.2 _ _ hat (by simp)) (go h hDy hL hlen hLo (okc (v := xI x) hv hSo))
  case iload n =>
    simp only [chkI, Bool.and_eq_true, decide_eq_true_eq] at hI
    obtain ⟨h1, h2⟩ := hI
    cases Nat.eq_of_beq_eq_true h1
    have hd := of_decide_eq_true hDd
    cases Nat.eq_of_beq_eq_true h2
    replace h := sI_i h
    obtain ⟨n0, x, T, e1, h⟩ := h
    obtain ⟨e1, -⟩ := List.cons.inj e1
    have hat := getD_at e1 (by simp)
    have hv := okV_mem hLo hat
    exact lv_iload hx hb hd (hL.2.2 _ _ hat (by simp)) (go h hDy hL hlen hLo (okc (v := xI x) hv hSo))
  case lload_n n =>
    simp only [chkI, Bool.and_eq_true, decide_eq_true_eq] at hI
    obtain ⟨h1, h2⟩ := hI
    cases Nat.eq_of_beq_eq_true h1
    have hd := of_decide_eq_true hDd
    subst h2
    replace h := sL_i h
    obtain ⟨n0, x, T, e1, h⟩ := h
    obtain ⟨e1, -⟩ := List.cons.inj e1
    have hat := getD_at e1 (by simp)
    have hv := okV_mem hLo hat
    exact lv_lload_n hx hb hd rfl (hL.2.2 _ _ hat (by simp)) (go h hDy hL hlen hLo (okc (v := xL x) hv hSo))
  case lload n =>
    simp only [chkI, Bool.and_eq_true, decide_eq_true_eq] at hI
    obtain ⟨h1, h2⟩ := hI
    cases Nat.eq_of_beq_eq_true h1
    have hd := of_decide_eq_true hDd
    cases Nat.eq_of_beq_eq_true h2
    replace h := sL_i h
    obtain ⟨n0, x, T, e1, h⟩ := h
    obtain ⟨e1, -⟩ := List.cons.inj e1
    have hat := getD_at e1 (by simp)
    have hv := okV_mem hLo hat
    exact lv_lload hx hb hd (hL.2.2 _ _ hat (by simp)) (go h hDy hL hlen hLo (okc (v := xL x) hv hSo))
  case aload_n n =>
    simp only [chkI, Bool.and_eq_true, decide_eq_true_eq] at hI
    obtain ⟨h1, h2⟩ := hI
    cases Nat.eq_of_beq_eq_true h1
    have hd := of_decide_eq_true hDd
    subst h2
    replace h := sB_i h
    obtain ⟨hr, h⟩ := h
    obtain ⟨y, hy⟩ := isR_mk (G := G) hr
    have h9 : (L.getD _ xU).1 ≠ 9 := isR_9 hr
    have hat := getD_at rfl h9
    have hl := hL.2.2 _ _ hat h9
    rw [hy] at hl
    refine lv_aload_n hx hb hd rfl hl ?_
    have hg := go h hDy hL hlen hLo (okc (okV_mem hLo hat) hSo)
    rw [List.map_cons, hy] at hg
    exact hg
  case aload n =>
    simp only [chkI, Bool.and_eq_true, decide_eq_true_eq] at hI
    obtain ⟨h1, h2⟩ := hI
    cases Nat.eq_of_beq_eq_true h1
    have hd := of_decide_eq_true hDd
    cases Nat.eq_of_beq_eq_true h2
    replace h := sB_i h
    obtain ⟨hr, h⟩ := h
    obtain ⟨y, hy⟩ := isR_mk (G := G) hr
    have h9 : (L.getD _ xU).1 ≠ 9 := isR_9 hr
    have hat := getD_at rfl h9
    have hl := hL.2.2 _ _ hat h9
    rw [hy] at hl
    refine lv_aload hx hb hd hl ?_
    have hg := go h hDy hL hlen hLo (okc (okV_mem hLo hat) hSo)
    rw [List.map_cons, hy] at hg
    exact hg
  case istore_n n =>
    simp only [chkI, Bool.and_eq_true, decide_eq_true_eq] at hI
    obtain ⟨h1, rfl, h3⟩ := hI
    cases Nat.eq_of_beq_eq_true h1
    have hd := of_decide_eq_true hDd
    replace h := sI_i h
    obtain ⟨n0, x, T, rfl, h⟩ := h
    have hT := okt hSo
    obtain ⟨hv, hT⟩ := hT
    have hlt := Nat.le_of_ble_eq_true h3
    refine lv_istore_n hx hb hd rfl (LR_has hL) (by rw [hlen]; exact hlt) rfl (fun ls' hl' => ?_)
    exact go h hDy (LR_st1 (v := xI x) hl') (by rw [st1_len]; exact hlen) (okV_st1 hLo hv) hT
  case istore n =>
    simp only [chkI, Bool.and_eq_true, decide_eq_true_eq] at hI
    obtain ⟨h1, rfl, h3⟩ := hI
    cases Nat.eq_of_beq_eq_true h1
    have hd := of_decide_eq_true hDd
    replace h := sI_i h
    obtain ⟨n0, x, T, rfl, h⟩ := h
    have hT := okt hSo
    obtain ⟨hv, hT⟩ := hT
    have hlt := Nat.le_of_ble_eq_true h3
    refine lv_istore hx hb hd (LR_has hL) (by rw [hlen]; exact hlt) rfl (fun ls' hl' => ?_)
    exact go h hDy (LR_st1 (v := xI x) hl') (by rw [st1_len]; exact hlen) (okV_st1 hLo hv) hT
  case lstore_n n =>
    simp only [chkI, Bool.and_eq_true, decide_eq_true_eq] at hI
    obtain ⟨h1, rfl, h3⟩ := hI
    cases Nat.eq_of_beq_eq_true h1
    have hd := of_decide_eq_true hDd
    replace h := sL_i h
    obtain ⟨n0, x, T, rfl, h⟩ := h
    have hT := okt hSo
    obtain ⟨hv, hT⟩ := hT
    have hlt := Nat.le_of_ble_eq_true h3
    refine lv_lstore_n hx hb hd rfl (LR_has hL) (by rw [hlen]; exact hlt) rfl (fun ls' hl' => ?_)
    exact go h hDy (LR_st2 (v := xL x) hl') (by rw [st2_len]; exact hlen) (okV_st2 hLo hv) hT
  case lstore n =>
    simp only [chkI, Bool.and_eq_true, decide_eq_true_eq] at hI
    obtain ⟨h1, rfl, h3⟩ := hI
    cases Nat.eq_of_beq_eq_true h1
    have hd := of_decide_eq_true hDd
    replace h := sL_i h
    obtain ⟨n0, x, T, rfl, h⟩ := h
    have hT := okt hSo
    obtain ⟨hv, hT⟩ := hT
    have hlt := Nat.le_of_ble_eq_true h3
    refine lv_lstore hx hb hd (LR_has hL) (by rw [hlen]; exact hlt) rfl (fun ls' hl' => ?_)
    exact go h hDy (LR_st2 (v := xL x) hl') (by rw [st2_len]; exact hlen) (okV_st2 hLo hv) hT
  case astore_n n =>
    simp only [chkI, Bool.and_eq_true, decide_eq_true_eq] at hI
    obtain ⟨h1, rfl, h3⟩ := hI
    cases Nat.eq_of_beq_eq_true h1
    have hd := of_decide_eq_true hDd
    replace h := sV_i h
    obtain ⟨v, T, rfl, h⟩ := h
    replace h := sB_i h
    obtain ⟨hr, h⟩ := h
    have hT := okt hSo
    obtain ⟨hv, hT⟩ := hT
    obtain ⟨y, hy⟩ := isR_mk (G := G) hr
    have hlt := Nat.le_of_ble_eq_true h3
    rw [List.map_cons, hy]
    refine lv_astore_n hx hb hd rfl (LR_has hL) (by rw [hlen]; exact hlt) rfl (fun ls' hl' => ?_)
    rw [← hy] at hl'
    exact go h hDy (LR_st1 (v := v) hl') (by rw [st1_len]; exact hlen) (okV_st1 hLo hv) hT
  case astore n =>
    simp only [chkI, Bool.and_eq_true, decide_eq_true_eq] at hI
    obtain ⟨h1, rfl, h3⟩ := hI
    cases Nat.eq_of_beq_eq_true h1
    have hd := of_decide_eq_true hDd
    replace h := sV_i h
    obtain ⟨v, T, rfl, h⟩ := h
    replace h := sB_i h
    obtain ⟨hr, h⟩ := h
    have hT := okt hSo
    obtain ⟨hv, hT⟩ := hT
    obtain ⟨y, hy⟩ := isR_mk (G := G) hr
    have hlt := Nat.le_of_ble_eq_true h3
    rw [List.map_cons, hy]
    refine lv_astore hx hb hd (LR_has hL) (by rw [hlen]; exact hlt) rfl (fun ls' hl' => ?_)
    rw [← hy] at hl'
    exact go h hDy (LR_st1 (v := v) hl') (by rw [st1_len]; exact hlen) (okV_st1 hLo hv) hT
  case iinc n v =>
    simp only [chkI, Bool.and_eq_true, decide_eq_true_eq] at hI
    obtain ⟨h1, h2, rfl⟩ := hI
    cases Nat.eq_of_beq_eq_true h1
    cases Nat.eq_of_beq_eq_true h2
    have hd := of_decide_eq_true hDd
    replace h := sI_i h
    obtain ⟨n0, x, T, e1, h⟩ := h
    obtain ⟨e1, -⟩ := List.cons.inj e1
    have hat := getD_at e1 (by simp)
    obtain ⟨j, hj⟩ := List.mem_iff_getElem?.mp (lvl_mem (G := G) hat (by simp))
    refine lv_iinc hx hb hd (LR_has hL) hj (v := Int32.ofInt (z32 (x + v))) (by rw [o32, Int32.ofInt_add]) (List.getElem?_eq_some_iff.mp hat).1 rfl (fun ls' hl' => ?_)
    exact go h hDy (LR_st1 (v := xI (z32 (x + v))) hl') (by rw [st1_len]; exact hlen) (okV_st1 hLo (i32_z _)) hSo
  case iadd =>
    cases Nat.eq_of_beq_eq_true hI
    have hd := of_decide_eq_true hDd
    replace h := sI_i h
    obtain ⟨n1, y, T, rfl, h⟩ := h
    replace h := sI_i h
    obtain ⟨n2, x, T, rfl, h⟩ := h
    have hT := okt hSo
    obtain ⟨hy, hT⟩ := hT
    replace hT := okt hT
    obtain ⟨hx1, hT⟩ := hT
    have hy : i32 y := hy
    have hx1 : i32 x := hx1
    refine lv_iadd hx hb hd ?_
    have hg := go h hDy hL hlen hLo (okc (i32_z _) hT)
    rw [List.map_cons, show mkV G (xI (z32 (x + y))) = .int (Int32.ofInt x + Int32.ofInt y) from congrArg Value.int (by rw [o32, Int32.ofInt_add])] at hg
    exact hg
  case isub =>
    cases Nat.eq_of_beq_eq_true hI
    have hd := of_decide_eq_true hDd
    replace h := sI_i h
    obtain ⟨n1, y, T, rfl, h⟩ := h
    replace h := sI_i h
    obtain ⟨n2, x, T, rfl, h⟩ := h
    have hT := okt hSo
    obtain ⟨hy, hT⟩ := hT
    replace hT := okt hT
    obtain ⟨hx1, hT⟩ := hT
    have hy : i32 y := hy
    have hx1 : i32 x := hx1
    refine lv_isub hx hb hd ?_
    have hg := go h hDy hL hlen hLo (okc (i32_z _) hT)
    rw [List.map_cons, show mkV G (xI (z32 (x - y))) = .int (Int32.ofInt x - Int32.ofInt y) from congrArg Value.int (by rw [o32, Int32.ofInt_sub])] at hg
    exact hg
  case imul =>
    cases Nat.eq_of_beq_eq_true hI
    have hd := of_decide_eq_true hDd
    replace h := sI_i h
    obtain ⟨n1, y, T, rfl, h⟩ := h
    replace h := sI_i h
    obtain ⟨n2, x, T, rfl, h⟩ := h
    have hT := okt hSo
    obtain ⟨hy, hT⟩ := hT
    replace hT := okt hT
    obtain ⟨hx1, hT⟩ := hT
    have hy : i32 y := hy
    have hx1 : i32 x := hx1
    refine lv_imul hx hb hd ?_
    have hg := go h hDy hL hlen hLo (okc (i32_z _) hT)
    rw [List.map_cons, show mkV G (xI (z32 (x * y))) = .int (Int32.ofInt x * Int32.ofInt y) from congrArg Value.int (by rw [o32, Int32.ofInt_mul])] at hg
    exact hg
  case iand =>
    cases Nat.eq_of_beq_eq_true hI
    have hd := of_decide_eq_true hDd
    replace h := sI_i h
    obtain ⟨n1, y, T, rfl, h⟩ := h
    replace h := sI_i h
    obtain ⟨n2, x, T, rfl, h⟩ := h
    have hT := okt hSo
    obtain ⟨hy, hT⟩ := hT
    replace hT := okt hT
    obtain ⟨hx1, hT⟩ := hT
    have hy : i32 y := hy
    have hx1 : i32 x := hx1
    refine lv_iand hx hb hd ?_
    have hg := go h hDy hL hlen hLo (okc (i32_t _) hT)
    rw [List.map_cons, show mkV G (xI (iand x y)) = .int (Int32.ofInt x &&& Int32.ofInt y) from congrArg Value.int (Int32.ofInt_toInt _)] at hg
    exact hg
  case ior =>
    cases Nat.eq_of_beq_eq_true hI
    have hd := of_decide_eq_true hDd
    replace h := sI_i h
    obtain ⟨n1, y, T, rfl, h⟩ := h
    replace h := sI_i h
    obtain ⟨n2, x, T, rfl, h⟩ := h
    have hT := okt hSo
    obtain ⟨hy, hT⟩ := hT
    replace hT := okt hT
    obtain ⟨hx1, hT⟩ := hT
    have hy : i32 y := hy
    have hx1 : i32 x := hx1
    refine lv_ior hx hb hd ?_
    have hg := go h hDy hL hlen hLo (okc (i32_t _) hT)
    rw [List.map_cons, show mkV G (xI (ior x y)) = .int (Int32.ofInt x ||| Int32.ofInt y) from congrArg Value.int (Int32.ofInt_toInt _)] at hg
    exact hg
  case ishl =>
    cases Nat.eq_of_beq_eq_true hI
    have hd := of_decide_eq_true hDd
    replace h := sI_i h
    obtain ⟨n1, y, T, rfl, h⟩ := h
    replace h := sI_i h
    obtain ⟨n2, x, T, rfl, h⟩ := h
    have hT := okt hSo
    obtain ⟨hy, hT⟩ := hT
    replace hT := okt hT
    obtain ⟨hx1, hT⟩ := hT
    have hy : i32 y := hy
    have hx1 : i32 x := hx1
    refine lv_ishl hx hb hd ?_
    have hg := go h hDy hL hlen hLo (okc (i32_t _) hT)
    rw [List.map_cons, show mkV G (xI (ishl x y)) = .int (Int32.ofInt x <<< (Int32.ofInt y &&& 31)) from congrArg Value.int (Int32.ofInt_toInt _)] at hg
    exact hg
  case ishr =>
    cases Nat.eq_of_beq_eq_true hI
    have hd := of_decide_eq_true hDd
    replace h := sI_i h
    obtain ⟨n1, y, T, rfl, h⟩ := h
    replace h := sI_i h
    obtain ⟨n2, x, T, rfl, h⟩ := h
    have hT := okt hSo
    obtain ⟨hy, hT⟩ := hT
    replace hT := okt hT
    obtain ⟨hx1, hT⟩ := hT
    have hy : i32 y := hy
    have hx1 : i32 x := hx1
    refine lv_ishr hx hb hd ?_
    have hg := go h hDy hL hlen hLo (okc (i32_t _) hT)
    rw [List.map_cons, show mkV G (xI (ishr x y)) = .int (Int32.ofInt x >>> (Int32.ofInt y &&& 31)) from congrArg Value.int (Int32.ofInt_toInt _)] at hg
    exact hg
  case idiv =>
    cases Nat.eq_of_beq_eq_true hI
    have hd := of_decide_eq_true hDd
    replace h := sI_i h
    obtain ⟨n1, y, T, rfl, h⟩ := h
    replace h := sI_i h
    obtain ⟨n2, x, T, rfl, h⟩ := h
    have hT := okt hSo
    obtain ⟨hy, hT⟩ := hT
    replace hT := okt hT
    obtain ⟨hx1, hT⟩ := hT
    have hy : i32 y := hy
    have hx1 : i32 x := hx1
    obtain ⟨hne, h⟩ := h
    refine lv_idiv hx hb hd (fun q => hne ((e32 hy ⟨by decide, by decide⟩).mp q)) ?_
    have hg := go h hDy hL hlen hLo (okc (i32_t _) hT)
    rw [List.map_cons, show mkV G (xI (idiv x y)) = .int (Int32.ofInt x / Int32.ofInt y) from congrArg Value.int (Int32.ofInt_toInt _)] at hg
    exact hg
  case irem =>
    cases Nat.eq_of_beq_eq_true hI
    have hd := of_decide_eq_true hDd
    replace h := sI_i h
    obtain ⟨n1, y, T, rfl, h⟩ := h
    replace h := sI_i h
    obtain ⟨n2, x, T, rfl, h⟩ := h
    have hT := okt hSo
    obtain ⟨hy, hT⟩ := hT
    replace hT := okt hT
    obtain ⟨hx1, hT⟩ := hT
    have hy : i32 y := hy
    have hx1 : i32 x := hx1
    obtain ⟨hne, h⟩ := h
    refine lv_irem hx hb hd (fun q => hne ((e32 hy ⟨by decide, by decide⟩).mp q)) ?_
    have hg := go h hDy hL hlen hLo (okc (i32_t _) hT)
    rw [List.map_cons, show mkV G (xI (irem x y)) = .int (Int32.ofInt x - Int32.ofInt x / Int32.ofInt y * Int32.ofInt y) from congrArg Value.int (Int32.ofInt_toInt _)] at hg
    exact hg
  case ladd =>
    cases Nat.eq_of_beq_eq_true hI
    have hd := of_decide_eq_true hDd
    replace h := sL_i h
    obtain ⟨n1, y, T, rfl, h⟩ := h
    replace h := sL_i h
    obtain ⟨n2, x, T, rfl, h⟩ := h
    have hT := okt hSo
    obtain ⟨hy, hT⟩ := hT
    replace hT := okt hT
    obtain ⟨hx1, hT⟩ := hT
    have hy : i64 y := hy
    have hx1 : i64 x := hx1
    refine lv_ladd hx hb hd ?_
    have hg := go h hDy hL hlen hLo (okc (i64_z _) hT)
    rw [List.map_cons, show mkV G (xL (z64 (x + y))) = .long (Int64.ofInt x + Int64.ofInt y) from congrArg Value.long (by rw [o64, Int64.ofInt_add])] at hg
    exact hg
  case lsub =>
    cases Nat.eq_of_beq_eq_true hI
    have hd := of_decide_eq_true hDd
    replace h := sL_i h
    obtain ⟨n1, y, T, rfl, h⟩ := h
    replace h := sL_i h
    obtain ⟨n2, x, T, rfl, h⟩ := h
    have hT := okt hSo
    obtain ⟨hy, hT⟩ := hT
    replace hT := okt hT
    obtain ⟨hx1, hT⟩ := hT
    have hy : i64 y := hy
    have hx1 : i64 x := hx1
    refine lv_lsub hx hb hd ?_
    have hg := go h hDy hL hlen hLo (okc (i64_z _) hT)
    rw [List.map_cons, show mkV G (xL (z64 (x - y))) = .long (Int64.ofInt x - Int64.ofInt y) from congrArg Value.long (by rw [o64, Int64.ofInt_sub])] at hg
    exact hg
  case lmul =>
    cases Nat.eq_of_beq_eq_true hI
    have hd := of_decide_eq_true hDd
    replace h := sL_i h
    obtain ⟨n1, y, T, rfl, h⟩ := h
    replace h := sL_i h
    obtain ⟨n2, x, T, rfl, h⟩ := h
    have hT := okt hSo
    obtain ⟨hy, hT⟩ := hT
    replace hT := okt hT
    obtain ⟨hx1, hT⟩ := hT
    have hy : i64 y := hy
    have hx1 : i64 x := hx1
    refine lv_lmul hx hb hd ?_
    have hg := go h hDy hL hlen hLo (okc (i64_z _) hT)
    rw [List.map_cons, show mkV G (xL (z64 (x * y))) = .long (Int64.ofInt x * Int64.ofInt y) from congrArg Value.long (by rw [o64, Int64.ofInt_mul])] at hg
    exact hg
  case land =>
    cases Nat.eq_of_beq_eq_true hI
    have hd := of_decide_eq_true hDd
    replace h := sL_i h
    obtain ⟨n1, y, T, rfl, h⟩ := h
    replace h := sL_i h
    obtain ⟨n2, x, T, rfl, h⟩ := h
    have hT := okt hSo
    obtain ⟨hy, hT⟩ := hT
    replace hT := okt hT
    obtain ⟨hx1, hT⟩ := hT
    have hy : i64 y := hy
    have hx1 : i64 x := hx1
    refine lv_land hx hb hd ?_
    have hg := go h hDy hL hlen hLo (okc (i64_t _) hT)
    rw [List.map_cons, show mkV G (xL (land x y)) = .long (Int64.ofInt x &&& Int64.ofInt y) from congrArg Value.long (Int64.ofInt_toInt _)] at hg
    exact hg
  case lor =>
    cases Nat.eq_of_beq_eq_true hI
    have hd := of_decide_eq_true hDd
    replace h := sL_i h
    obtain ⟨n1, y, T, rfl, h⟩ := h
    replace h := sL_i h
    obtain ⟨n2, x, T, rfl, h⟩ := h
    have hT := okt hSo
    obtain ⟨hy, hT⟩ := hT
    replace hT := okt hT
    obtain ⟨hx1, hT⟩ := hT
    have hy : i64 y := hy
    have hx1 : i64 x := hx1
    refine lv_lor hx hb hd ?_
    have hg := go h hDy hL hlen hLo (okc (i64_t _) hT)
    rw [List.map_cons, show mkV G (xL (lor x y)) = .long (Int64.ofInt x ||| Int64.ofInt y) from congrArg Value.long (Int64.ofInt_toInt _)] at hg
    exact hg
  case lxor =>
    cases Nat.eq_of_beq_eq_true hI
    have hd := of_decide_eq_true hDd
    replace h := sL_i h
    obtain ⟨n1, y, T, rfl, h⟩ := h
    replace h := sL_i h
    obtain ⟨n2, x, T, rfl, h⟩ := h
    have hT := okt hSo
    obtain ⟨hy, hT⟩ := hT
    replace hT := okt hT
    obtain ⟨hx1, hT⟩ := hT
    have hy : i64 y := hy
    have hx1 : i64 x := hx1
    refine lv_lxor hx hb hd ?_
    have hg := go h hDy hL hlen hLo (okc (i64_t _) hT)
    rw [List.map_cons, show mkV G (xL (lxor x y)) = .long (Int64.ofInt x ^^^ Int64.ofInt y) from congrArg Value.long (Int64.ofInt_toInt _)] at hg
    exact hg
  case ldiv =>
    cases Nat.eq_of_beq_eq_true hI
    have hd := of_decide_eq_true hDd
    replace h := sL_i h
    obtain ⟨n1, y, T, rfl, h⟩ := h
    replace h := sL_i h
    obtain ⟨n2, x, T, rfl, h⟩ := h
    have hT := okt hSo
    obtain ⟨hy, hT⟩ := hT
    replace hT := okt hT
    obtain ⟨hx1, hT⟩ := hT
    have hy : i64 y := hy
    have hx1 : i64 x := hx1
    obtain ⟨hne, h⟩ := h
    refine lv_ldiv hx hb hd (fun q => hne ((e64 hy ⟨by decide, by decide⟩).mp q)) ?_
    have hg := go h hDy hL hlen hLo (okc (i64_t _) hT)
    rw [List.map_cons, show mkV G (xL (ldiv x y)) = .long (Int64.ofInt x / Int64.ofInt y) from congrArg Value.long (Int64.ofInt_toInt _)] at hg
    exact hg
  case lrem =>
    cases Nat.eq_of_beq_eq_true hI
    have hd := of_decide_eq_true hDd
    replace h := sL_i h
    obtain ⟨n1, y, T, rfl, h⟩ := h
    replace h := sL_i h
    obtain ⟨n2, x, T, rfl, h⟩ := h
    have hT := okt hSo
    obtain ⟨hy, hT⟩ := hT
    replace hT := okt hT
    obtain ⟨hx1, hT⟩ := hT
    have hy : i64 y := hy
    have hx1 : i64 x := hx1
    obtain ⟨hne, h⟩ := h
    refine lv_lrem hx hb hd (fun q => hne ((e64 hy ⟨by decide, by decide⟩).mp q)) ?_
    have hg := go h hDy hL hlen hLo (okc (i64_t _) hT)
    rw [List.map_cons, show mkV G (xL (lrem x y)) = .long (Int64.ofInt x - Int64.ofInt x / Int64.ofInt y * Int64.ofInt y) from congrArg Value.long (Int64.ofInt_toInt _)] at hg
    exact hg
  case lshl =>
    cases Nat.eq_of_beq_eq_true hI
    have hd := of_decide_eq_true hDd
    replace h := sI_i h
    obtain ⟨n1, y, T, rfl, h⟩ := h
    replace h := sL_i h
    obtain ⟨n2, x, T, rfl, h⟩ := h
    have hT := okt hSo
    obtain ⟨hy, hT⟩ := hT
    replace hT := okt hT
    obtain ⟨hx1, hT⟩ := hT
    have hy : i32 y := hy
    have hx1 : i64 x := hx1
    refine lv_lshl hx hb hd rfl ?_
    have hg := go h hDy hL hlen hLo (okc (i64_t _) hT)
    rw [List.map_cons, show mkV G (xL (lshl x y)) = .long (Int64.ofInt x <<< ((Int32.ofInt y).toInt64 &&& 63)) from congrArg Value.long (Int64.ofInt_toInt _)] at hg
    exact hg
  case lshr =>
    cases Nat.eq_of_beq_eq_true hI
    have hd := of_decide_eq_true hDd
    replace h := sI_i h
    obtain ⟨n1, y, T, rfl, h⟩ := h
    replace h := sL_i h
    obtain ⟨n2, x, T, rfl, h⟩ := h
    have hT := okt hSo
    obtain ⟨hy, hT⟩ := hT
    replace hT := okt hT
    obtain ⟨hx1, hT⟩ := hT
    have hy : i32 y := hy
    have hx1 : i64 x := hx1
    refine lv_lshr hx hb hd rfl ?_
    have hg := go h hDy hL hlen hLo (okc (i64_t _) hT)
    rw [List.map_cons, show mkV G (xL (lshr x y)) = .long (Int64.ofInt x >>> ((Int32.ofInt y).toInt64 &&& 63)) from congrArg Value.long (Int64.ofInt_toInt _)] at hg
    exact hg
  case lushr =>
    cases Nat.eq_of_beq_eq_true hI
    have hd := of_decide_eq_true hDd
    replace h := sI_i h
    obtain ⟨n1, y, T, rfl, h⟩ := h
    replace h := sL_i h
    obtain ⟨n2, x, T, rfl, h⟩ := h
    have hT := okt hSo
    obtain ⟨hy, hT⟩ := hT
    replace hT := okt hT
    obtain ⟨hx1, hT⟩ := hT
    have hy : i32 y := hy
    have hx1 : i64 x := hx1
    refine lv_lushr hx hb hd rfl ?_
    have hg := go h hDy hL hlen hLo (okc (i64_t _) hT)
    rw [List.map_cons, show mkV G (xL (lushr x y)) = .long (((Int64.ofInt x).toUInt64 >>> ((Int32.ofInt y).toInt64.toUInt64 &&& Int64.toUInt64 63)).toInt64) from congrArg Value.long (Int64.ofInt_toInt _)] at hg
    exact hg
  case i2b =>
    cases Nat.eq_of_beq_eq_true hI
    have hd := of_decide_eq_true hDd
    replace h := sI_i h
    obtain ⟨n1, x, T, rfl, h⟩ := h
    have hT := okt hSo
    obtain ⟨hx1, hT⟩ := hT
    have hx1 : i32 x := hx1
    refine lv_i2b hx hb hd rfl ?_
    have hg := go h hDy hL hlen hLo (okc (i32_t _) hT)
    rw [List.map_cons, show mkV G (xI (i2b x)) = .int ((Int32.ofInt x).toInt8.toInt32) from congrArg Value.int (Int32.ofInt_toInt _)] at hg
    exact hg
  case i2l =>
    cases Nat.eq_of_beq_eq_true hI
    have hd := of_decide_eq_true hDd
    replace h := sI_i h
    obtain ⟨n1, x, T, rfl, h⟩ := h
    have hT := okt hSo
    obtain ⟨hx1, hT⟩ := hT
    have hx1 : i32 x := hx1
    refine lv_i2l hx hb hd rfl ?_
    have hg := go h hDy hL hlen hLo (okc (show okV SH (xL x) from i32_64 hx1) hT)
    rw [List.map_cons, show mkV G (xL x) = .long ((Int32.ofInt x).toInt64) from congrArg Value.long (Int64.toInt_inj.mp (by rw [Int32.toInt_toInt64, t32 hx1, t64 (i32_64 hx1)]))] at hg
    exact hg
  case l2i =>
    cases Nat.eq_of_beq_eq_true hI
    have hd := of_decide_eq_true hDd
    replace h := sL_i h
    obtain ⟨n1, x, T, rfl, h⟩ := h
    have hT := okt hSo
    obtain ⟨hx1, hT⟩ := hT
    have hx1 : i64 x := hx1
    refine lv_l2i hx hb hd rfl ?_
    have hg := go h hDy hL hlen hLo (okc (i32_z _) hT)
    rw [List.map_cons, show mkV G (xI (z32 x)) = .int ((Int64.ofInt x).toInt32) from congrArg Value.int (by rw [o32, Int64.toInt32_ofInt])] at hg
    exact hg
  case lneg =>
    cases Nat.eq_of_beq_eq_true hI
    have hd := of_decide_eq_true hDd
    replace h := sL_i h
    obtain ⟨n1, x, T, rfl, h⟩ := h
    have hT := okt hSo
    obtain ⟨hx1, hT⟩ := hT
    have hx1 : i64 x := hx1
    refine lv_lneg hx hb hd ?_
    have hg := go h hDy hL hlen hLo (okc (i64_z _) hT)
    rw [List.map_cons, show mkV G (xL (z64 (- x))) = .long (- Int64.ofInt x) from congrArg Value.long (by rw [o64, Int64.ofInt_neg])] at hg
    exact hg
  case l2d =>
    cases Nat.eq_of_beq_eq_true hI
    have hd := of_decide_eq_true hDd
    replace h := sL_i h
    obtain ⟨n1, x, T, rfl, h⟩ := h
    have hT := okt hSo
    obtain ⟨hx1, hT⟩ := hT
    have hx1 : i64 x := hx1
    refine lv_l2d hx hb hd ?_
    have hg := go h hDy hL hlen hLo (okc (show okV SH (xD (l2d x)) from u64_ok _) hT)
    rw [List.map_cons, show mkV G (xD (l2d x)) = .double (FP.l2d (Int64.ofInt x)) from congrArg Value.double (by unfold l2d; rw [Int.toNat_natCast]; exact UInt64.ofNat_toNat)] at hg
    exact hg
  case ddiv =>
    cases Nat.eq_of_beq_eq_true hI
    have hd := of_decide_eq_true hDd
    replace h := sD_i h
    obtain ⟨n1, y, T, rfl, h⟩ := h
    replace h := sD_i h
    obtain ⟨n2, x, T, rfl, h⟩ := h
    have hT := okt hSo
    obtain ⟨hy, hT⟩ := hT
    replace hT := okt hT
    obtain ⟨hx1, hT⟩ := hT
    obtain ⟨hk, h⟩ := h
    have e1 : UInt64.ofNat (ddiv x y).toNat = FP.ddiv (UInt64.ofNat x.toNat) (UInt64.ofNat y.toNat) := by unfold ddiv; rw [Int.toNat_natCast]; exact UInt64.ofNat_toNat
    unfold dok at hk
    rw [e1] at hk
    refine lv_ddiv hx hb hd hk ?_
    have hg := go h hDy hL hlen hLo (okc (show okV SH (xD (ddiv x y)) from u64_ok _) hT)
    rw [List.map_cons, show mkV G (xD (ddiv x y)) = .double (FP.ddiv (UInt64.ofNat x.toNat) (UInt64.ofNat y.toNat)) from congrArg Value.double e1] at hg
    exact hg
  case dup =>
    cases Nat.eq_of_beq_eq_true hI
    have hd := of_decide_eq_true hDd
    replace h := sV_i h
    obtain ⟨v, T, rfl, h⟩ := h
    replace h := sB_i h
    obtain ⟨hr, h⟩ := h
    have hT := okt hSo
    obtain ⟨hv, hT⟩ := hT
    exact lv_dup hx hb hd (cat1 hr) (go h hDy hL hlen hLo (okc hv (okc hv hT)))
  case pop =>
    cases Nat.eq_of_beq_eq_true hI
    have hd := of_decide_eq_true hDd
    replace h := sV_i h
    obtain ⟨v, T, rfl, h⟩ := h
    replace h := sB_i h
    obtain ⟨hr, h⟩ := h
    have hT := okt hSo
    obtain ⟨hv, hT⟩ := hT
    exact lv_pop hx hb hd (cat1 hr) (go h hDy hL hlen hLo hT)
  case dup2 =>
    cases Nat.eq_of_beq_eq_true hI
    have hd := of_decide_eq_true hDd
    replace h := sV_i h
    obtain ⟨v, T, rfl, h⟩ := h
    replace h := sV_i h
    obtain ⟨w, T, rfl, h⟩ := h
    replace h := sB_i h
    obtain ⟨hr, h⟩ := h
    have hT := okt hSo
    obtain ⟨hv, hT⟩ := hT
    replace hT := okt hT
    obtain ⟨hw, hT⟩ := hT
    rw [Bool.and_eq_true] at hr
    exact lv_dup2_11 hx hb hd (cat1 hr.1) (cat1 hr.2) (go h hDy hL hlen hLo (okc hv (okc hw (okc hv (okc hw hT)))))
  case goto off =>
    simp only [chkI, Bool.and_eq_true, decide_eq_true_eq] at hI
    obtain ⟨h1, h2⟩ := hI
    cases Nat.eq_of_beq_eq_true h1
    have hd := of_decide_eq_true hDd
    exact lv_goto hx hb hd h2 (go h hDy hL hlen hLo hSo)
  case if_icmp o off =>
    simp only [chkI, Bool.and_eq_true, decide_eq_true_eq] at hI
    obtain ⟨h1, h2⟩ := hI
    cases Nat.eq_of_beq_eq_true h1
    have hd := of_decide_eq_true hDd
    replace h := sI_i h
    obtain ⟨n1, y, T, rfl, h⟩ := h
    replace h := sI_i h
    obtain ⟨n2, x, T, rfl, h⟩ := h
    have hT := okt hSo
    obtain ⟨hy, hT⟩ := hT
    replace hT := okt hT
    obtain ⟨hx1, hT⟩ := hT
    have hy : i32 y := hy
    have hx1 : i32 x := hx1
    cases o with
    | eq => exact lv_icmp_eq hx hb hd h2 (fun q => go ((fun q => h.1 ((e32 hx1 hy).mp q)) q) hDy hL hlen hLo hT) (fun q => go ((fun q => h.2 (fun z => q ((e32 hx1 hy).mpr z))) q) hDy hL hlen hLo hT)
    | ne => exact lv_icmp_ne hx hb hd h2 (fun q => go ((fun q => h.1 (fun z => q ((e32 hx1 hy).mpr z))) q) hDy hL hlen hLo hT) (fun q => go ((fun q => h.2 (fun z => z ((e32 hx1 hy).mp q))) q) hDy hL hlen hLo hT)
    | lt => exact lv_icmp_lt hx hb hd h2 (fun q => go ((fun q => h.1 ((l32 hx1 hy).mp q)) q) hDy hL hlen hLo hT) (fun q => go ((fun q => h.2 (fun z => q ((l32 hx1 hy).mpr z))) q) hDy hL hlen hLo hT)
    | ge => exact lv_icmp_ge hx hb hd h2 (fun q => go ((fun q => h.1 ((le32 hy hx1).mp q)) q) hDy hL hlen hLo hT) (fun q => go ((fun q => h.2 (fun z => q ((le32 hy hx1).mpr z))) q) hDy hL hlen hLo hT)
    | gt => exact lv_icmp_gt hx hb hd h2 (fun q => go ((fun q => h.1 ((l32 hy hx1).mp q)) q) hDy hL hlen hLo hT) (fun q => go ((fun q => h.2 (fun z => q ((l32 hy hx1).mpr z))) q) hDy hL hlen hLo hT)
    | le => exact lv_icmp_le hx hb hd h2 (fun q => go ((fun q => h.1 ((le32 hx1 hy).mp q)) q) hDy hL hlen hLo hT) (fun q => go ((fun q => h.2 (fun z => q ((le32 hx1 hy).mpr z))) q) hDy hL hlen hLo hT)
  case ifCond o off =>
    simp only [chkI, Bool.and_eq_true, decide_eq_true_eq] at hI
    obtain ⟨h1, h2⟩ := hI
    cases Nat.eq_of_beq_eq_true h1
    have hd := of_decide_eq_true hDd
    replace h := sI_i h
    obtain ⟨n2, x, T, rfl, h⟩ := h
    have hT := okt hSo
    obtain ⟨hx1, hT⟩ := hT
    have hx1 : i32 x := hx1
    have hz : i32 0 := ⟨by decide, by decide⟩
    cases o with
    | eq => exact lv_if_eq hx hb hd h2 (fun q => go ((fun q => h.1 ((e32 hx1 hz).mp q)) q) hDy hL hlen hLo hT) (fun q => go ((fun q => h.2 (fun z => q ((e32 hx1 hz).mpr z))) q) hDy hL hlen hLo hT)
    | ne => exact lv_if_ne hx hb hd h2 (fun q => go ((fun q => h.1 (fun z => q ((e32 hx1 hz).mpr z))) q) hDy hL hlen hLo hT) (fun q => go ((fun q => h.2 (fun z => z ((e32 hx1 hz).mp q))) q) hDy hL hlen hLo hT)
    | lt => exact lv_if_lt hx hb hd h2 (fun q => go ((fun q => h.1 ((l32 hx1 hz).mp q)) q) hDy hL hlen hLo hT) (fun q => go ((fun q => h.2 (fun z => q ((l32 hx1 hz).mpr z))) q) hDy hL hlen hLo hT)
    | ge => exact lv_if_ge hx hb hd h2 (fun q => go ((fun q => h.1 ((le32 hz hx1).mp q)) q) hDy hL hlen hLo hT) (fun q => go ((fun q => h.2 (fun z => q ((le32 hz hx1).mpr z))) q) hDy hL hlen hLo hT)
    | gt => exact lv_if_gt hx hb hd h2 (fun q => go ((fun q => h.1 ((l32 hz hx1).mp q)) q) hDy hL hlen hLo hT) (fun q => go ((fun q => h.2 (fun z => q ((l32 hz hx1).mpr z))) q) hDy hL hlen hLo hT)
    | le => exact lv_if_le hx hb hd h2 (fun q => go ((fun q => h.1 ((le32 hx1 hz).mp q)) q) hDy hL hlen hLo hT) (fun q => go ((fun q => h.2 (fun z => q ((le32 hx1 hz).mpr z))) q) hDy hL hlen hLo hT)
  case laload =>
    cases Nat.eq_of_beq_eq_true hI
    have hd := of_decide_eq_true hDd
    replace h := sI_i h
    obtain ⟨n1, j, T, rfl, h⟩ := h
    replace h := sA_i h
    obtain ⟨n, a, T, rfl, h⟩ := h
    have hT := okt hSo
    obtain ⟨hj, hT⟩ := hT
    replace hT := okt hT
    obtain ⟨ha, hT⟩ := hT
    have hj : i32 j := hj
    obtain ⟨b, rfl⟩ := nat_of ha.1
    have hsh : SH[b]? = some (4, n) := ha.2
    obtain ⟨hin, h⟩ := h
    obtain ⟨q, rfl, hq⟩ := j_in hin
    refine va_lald hx hb hst.1 hDy.1 b 1 (f := fun q => Int64.ofInt (M b q)) (xW_at hsh) rfl (in32 hin.1 hin.2 hj) hd ?_
    rw [n32' hj]
    exact go h hDy hL hlen hLo (okc (show okV SH (xL (M b q)) from hDy.2.2.2.1 b _ hsh q hq) hT)
  case iaload =>
    cases Nat.eq_of_beq_eq_true hI
    have hd := of_decide_eq_true hDd
    replace h := sI_i h
    obtain ⟨n1, j, T, rfl, h⟩ := h
    have hT := okt hSo
    obtain ⟨hj, hT⟩ := hT
    have hj : i32 j := hj
    replace h := sJ_i h
    rcases h with ⟨n, a, T, rfl, h⟩ | ⟨n, a, T, rfl, h⟩
    · replace hT := okt hT
      obtain ⟨ha, hT⟩ := hT
      obtain ⟨b, rfl⟩ := nat_of ha.1
      have hsh : SH[b]? = some (3, n) := ha.2
      obtain ⟨hin, h⟩ := h
      obtain ⟨q, rfl, hq⟩ := j_in hin
      refine va_iald hx hb hst.1 hDy.1 b 0 (f := fun q => Int32.ofInt (M b q)) (xW_at hsh) rfl (in32 hin.1 hin.2 hj) hd ?_
      rw [n32' hj]
      exact go h hDy hL hlen hLo (okc (show okV SH (xI (M b q)) from hDy.2.2.2.1 b _ hsh q hq) hT)
    · replace hT := okt hT
      obtain ⟨ha, hT⟩ := hT
      obtain ⟨hin, h⟩ := h
      have hsc := hDy.2.2.2.2
      rw [hsc.1, Int.toNat_natCast] at hin
      obtain ⟨q, rfl, hq⟩ := j_in hin
      refine va_sld hx hb hst.2.2.1 hst.2.2.2.1 hst.2.2.2.2.1 hDy.2.2.1 (in32 hin.1 hin.2 hj) hd ?_
      rw [n32' hj]
      rw [hsc.2.2 q hq] at h
      have hg := go h hDy hL hlen hLo (okc (show okV SH (xI ((xs q).toInt)) from i32_t _) hT)
      rw [List.map_cons, show mkV G (xI (xs q).toInt) = .int (xs q) from congrArg Value.int (Int32.ofInt_toInt _)] at hg
      exact hg
  case arraylength =>
    cases Nat.eq_of_beq_eq_true hI
    have hd := of_decide_eq_true hDd
    replace h := sS_i h
    obtain ⟨n, a, T, rfl, h⟩ := h
    have hT := okt hSo
    obtain ⟨ha, hT⟩ := hT
    have hsc := hDy.2.2.2.2
    refine va_slen hx hb hst.2.2.1 hst.2.2.2.1 hst.2.2.2.2.1 hDy.2.2.1 hd ?_
    rw [hsc.1] at h
    have hg := go h hDy hL hlen hLo (okc (v := xI (Ls : Int)) (show i32 (Ls : Int) from ⟨by have := hsc.2.1; omega, by have := hsc.2.1; omega⟩) hT)
    exact hg
  case baload =>
    cases Nat.eq_of_beq_eq_true hI
    have hd := of_decide_eq_true hDd
    replace h := sI_i h
    obtain ⟨n1, j, T, rfl, h⟩ := h
    have hT := okt hSo
    obtain ⟨hj, hT⟩ := hT
    have hj : i32 j := hj
    replace h := sY_i h
    rcases h with ⟨n, a, T, rfl, h⟩ | ⟨n, a, T, rfl, h⟩
    · replace hT := okt hT
      obtain ⟨ha, hT⟩ := hT
      obtain ⟨b, rfl⟩ := nat_of ha.1
      have hsh : SH[b]? = some (5, n) := ha.2
      obtain ⟨hin, h⟩ := h
      obtain ⟨q, rfl, hq⟩ := j_in hin
      refine va_zald hx hb hst.1 hDy.1 b 2 (f := fun q => Int32.ofInt (M b q)) (xW_at hsh) rfl (in32 hin.1 hin.2 hj) hd ?_
      rw [n32' hj]
      exact go h hDy hL hlen hLo (okc (show okV SH (xI (M b q)) from hDy.2.2.2.1 b _ hsh q hq) hT)
    · replace hT := okt hT
      obtain ⟨ha, hT⟩ := hT
      obtain ⟨b, rfl⟩ := nat_of ha.1
      have hsh : SH[b]? = some (12, n) := ha.2
      obtain ⟨hin, h⟩ := h
      obtain ⟨q, rfl, hq⟩ := j_in hin
      refine va_bald hx hb hst.1 hDy.1 b 5 (f := fun q => Int32.ofInt (M b q)) (xW_at hsh) rfl (in32 hin.1 hin.2 hj) hd ?_
      rw [n32' hj]
      exact go h hDy hL hlen hLo (okc (show okV SH (xI (M b q)) from hDy.2.2.2.1 b _ hsh q hq) hT)
  case aaload =>
    cases Nat.eq_of_beq_eq_true hI
    have hd := of_decide_eq_true hDd
    replace h := sI_i h
    obtain ⟨n1, j, T, rfl, h⟩ := h
    have hT := okt hSo
    obtain ⟨hj, hT⟩ := hT
    have hj : i32 j := hj
    replace h := sK_i h
    rcases h with ⟨n, a, T, rfl, h⟩ | ⟨n, a, T, rfl, h⟩
    · replace hT := okt hT
      obtain ⟨ha, hT⟩ := hT
      obtain ⟨b, rfl⟩ := nat_of ha.1
      have hsh : SH[b]? = some (6, n) := ha.2
      obtain ⟨hin, h⟩ := h
      obtain ⟨q, rfl, hq⟩ := j_in hin
      refine va_aldq hx hb hst.1 hDy.1 b 3 (f := fun q => some (G.1 (M b q).toNat)) (xW_at hsh) rfl (in32 hin.1 hin.2 hj) hd ?_
      rw [n32' hj]
      exact go h hDy hL hlen hLo (okc (hDy.2.2.2.1 b _ hsh q hq) hT)
    · replace hT := okt hT
      obtain ⟨ha, hT⟩ := hT
      obtain ⟨b, rfl⟩ := nat_of ha.1
      have hsh : SH[b]? = some (7, n) := ha.2
      obtain ⟨hin, h⟩ := h
      obtain ⟨q, rfl, hq⟩ := j_in hin
      refine x_aldr hx hb hst.1 hDy.1 b 4 (f := fun q => some (G.1 (M b q).toNat)) (xW_at hsh) rfl (in32 hin.1 hin.2 hj) hd ?_
      rw [n32' hj]
      exact go h hDy hL hlen hLo (okc (hDy.2.2.2.1 b _ hsh q hq) hT)
  case iastore =>
    cases Nat.eq_of_beq_eq_true hI
    have hd := of_decide_eq_true hDd
    replace h := sI_i h
    obtain ⟨n0, x, T, rfl, h⟩ := h
    replace h := sI_i h
    obtain ⟨n1, j, T, rfl, h⟩ := h
    replace h := sA_i h
    obtain ⟨n, a, T, rfl, h⟩ := h
    have hT := okt hSo
    obtain ⟨hx1, hT⟩ := hT
    replace hT := okt hT
    obtain ⟨hj, hT⟩ := hT
    replace hT := okt hT
    obtain ⟨ha, hT⟩ := hT
    have hj : i32 j := hj
    obtain ⟨b, rfl⟩ := nat_of ha.1
    have hsh : SH[b]? = some (3, n) := ha.2
    obtain ⟨hin, h⟩ := h
    obtain ⟨q, rfl, hq⟩ := j_in hin
    refine va_iast hx hb hst.1 hDy.1 hDy.2.1 hDy.2.2.1 b 0 (f := fun q => Int32.ofInt (M b q)) (xW_at hsh) rfl (in32 hin.1 hin.2 hj) hd (fun H1 locs1 hP1 hD1 hS1 => ?_)
    rw [n32' hj, xW_up (i := (q : Int)) (v := x) hsh (congrArg (fun f => (Sum.inl (cA 3, n, Sum.inl f) : va_E)) (upd_fun rfl))] at hP1 hD1
    exact go h ⟨hP1, hD1, hS1, okM_up hDy.2.2.2.1 hsh (okC_arr (Or.inl rfl) (hDy.2.2.2.1 b _ hsh) hx1), xScr_up hDy.2.2.2.2⟩ hL hlen hLo hT
  case lastore =>
    cases Nat.eq_of_beq_eq_true hI
    have hd := of_decide_eq_true hDd
    replace h := sL_i h
    obtain ⟨n0, x, T, rfl, h⟩ := h
    replace h := sI_i h
    obtain ⟨n1, j, T, rfl, h⟩ := h
    replace h := sA_i h
    obtain ⟨n, a, T, rfl, h⟩ := h
    have hT := okt hSo
    obtain ⟨hx1, hT⟩ := hT
    replace hT := okt hT
    obtain ⟨hj, hT⟩ := hT
    replace hT := okt hT
    obtain ⟨ha, hT⟩ := hT
    have hj : i32 j := hj
    obtain ⟨b, rfl⟩ := nat_of ha.1
    have hsh : SH[b]? = some (4, n) := ha.2
    obtain ⟨hin, h⟩ := h
    obtain ⟨q, rfl, hq⟩ := j_in hin
    refine va_last hx hb hst.1 hDy.1 hDy.2.1 hDy.2.2.1 b 1 (f := fun q => Int64.ofInt (M b q)) (xW_at hsh) rfl (in32 hin.1 hin.2 hj) hd (fun H1 locs1 hP1 hD1 hS1 => ?_)
    rw [n32' hj, xW_up (i := (q : Int)) (v := x) hsh (congrArg (fun f => (Sum.inl (cA 4, n, Sum.inr (Sum.inl f)) : va_E)) (updL_fun rfl))] at hP1 hD1
    exact go h ⟨hP1, hD1, hS1, okM_up hDy.2.2.2.1 hsh (okC_arrL (hDy.2.2.2.1 b _ hsh) hx1), xScr_up hDy.2.2.2.2⟩ hL hlen hLo hT
  case bastore =>
    cases Nat.eq_of_beq_eq_true hI
    have hd := of_decide_eq_true hDd
    replace h := sI_i h
    obtain ⟨n0, x, T, rfl, h⟩ := h
    replace h := sI_i h
    obtain ⟨n1, j, T, rfl, h⟩ := h
    have hT := okt hSo
    obtain ⟨hx1, hT⟩ := hT
    replace hT := okt hT
    obtain ⟨hj, hT⟩ := hT
    have hj : i32 j := hj
    have hx1 : i32 x := hx1
    replace h := sY_i h
    rcases h with ⟨n, a, T, rfl, h⟩ | ⟨n, a, T, rfl, h⟩
    · replace hT := okt hT
      obtain ⟨ha, hT⟩ := hT
      obtain ⟨b, rfl⟩ := nat_of ha.1
      have hsh : SH[b]? = some (5, n) := ha.2
      obtain ⟨hin, h⟩ := h
      obtain ⟨q, rfl, hq⟩ := j_in hin
      replace h := rb_i h
      obtain ⟨hx2, h⟩ := h
      refine va_zast hx hb hst.1 hDy.1 hDy.2.1 hDy.2.2.1 b 2 (f := fun q => Int32.ofInt (M b q)) (xW_at hsh) rfl (in32 hin.1 hin.2 hj) hd (fun H1 locs1 hP1 hD1 hS1 => ?_)
      rw [n32' hj, nar_z hx2, xW_up (i := (q : Int)) (v := x) hsh (congrArg (fun f => (Sum.inl (cA 5, n, Sum.inl f) : va_E)) (upd_fun rfl))] at hP1 hD1
      exact go h ⟨hP1, hD1, hS1, okM_up hDy.2.2.2.1 hsh (okC_arr (Or.inr (Or.inl rfl)) (hDy.2.2.2.1 b _ hsh) hx1), xScr_up hDy.2.2.2.2⟩ hL hlen hLo hT
    · replace hT := okt hT
      obtain ⟨ha, hT⟩ := hT
      obtain ⟨b, rfl⟩ := nat_of ha.1
      have hsh : SH[b]? = some (12, n) := ha.2
      obtain ⟨hin, h⟩ := h
      obtain ⟨q, rfl, hq⟩ := j_in hin
      refine va_bast hx hb hst.1 hDy.1 hDy.2.1 hDy.2.2.1 b 5 (f := fun q => Int32.ofInt (M b q)) (xW_at hsh) rfl (in32 hin.1 hin.2 hj) hd (fun H1 locs1 hP1 hD1 hS1 => ?_)
      rw [n32' hj, nar_b, xW_up (i := (q : Int)) (v := i2b x) hsh (congrArg (fun f => (Sum.inl (cA 12, n, Sum.inl f) : va_E)) (upd_fun rfl))] at hP1 hD1
      exact go h ⟨hP1, hD1, hS1, okM_up hDy.2.2.2.1 hsh (okC_arr (Or.inr (Or.inr rfl)) (hDy.2.2.2.1 b _ hsh) (i32_t _)), xScr_up hDy.2.2.2.2⟩ hL hlen hLo hT
  case aastore =>
    cases Nat.eq_of_beq_eq_true hI
    have hd := of_decide_eq_true hDd
    replace h := sO_i h
    obtain ⟨x, T, rfl, h⟩ := h
    replace h := sI_i h
    obtain ⟨n1, j, T, rfl, h⟩ := h
    replace h := sA_i h
    obtain ⟨n, a, T, rfl, h⟩ := h
    have hT := okt hSo
    obtain ⟨hx1, hT⟩ := hT
    replace hT := okt hT
    obtain ⟨hj, hT⟩ := hT
    replace hT := okt hT
    obtain ⟨ha, hT⟩ := hT
    have hj : i32 j := hj
    obtain ⟨b, rfl⟩ := nat_of ha.1
    have hsh : SH[b]? = some (6, n) := ha.2
    have hxo : okV SH (xO xTab x) := hx1
    obtain ⟨b2, rfl⟩ := nat_of hxo.1
    have hsh2 : SH[b2]? = some (2, 6) := hxo.2
    obtain ⟨hin, h⟩ := h
    obtain ⟨q, rfl, hq⟩ := j_in hin
    refine va_astq hx hb hst.1 hDy.1 hDy.2.1 hDy.2.2.1 b 3 b2 6 (r := (RX6, TX6, 8)) (f := fun q => some (G.1 (M b q).toNat)) (xW_at hsh) rfl (xW_at hsh2) rfl (in32 hin.1 hin.2 hj) hd (fun H1 locs1 hP1 hD1 hS1 => ?_)
    rw [n32' hj, xW_up (i := (q : Int)) (v := (b2 : Int)) hsh (show xcell G cA (up M b (q : Int) (b2 : Int)) b (6, n) = (Sum.inl (cA 6, n, Sum.inr (Sum.inr (Sum.inr (Sum.inr (va_up (fun q => some (G.1 (M b q).toNat)) q (some (G.1 b2))))))) : va_E) from congrArg (fun f => (Sum.inl (cA 6, n, Sum.inr (Sum.inr (Sum.inr (Sum.inr f)))) : va_E)) (updR_fun rfl))] at hP1 hD1
    exact go h ⟨hP1, hD1, hS1, okM_up hDy.2.2.2.1 hsh (okC_arrT (hDy.2.2.2.1 b _ hsh) hxo), xScr_up hDy.2.2.2.2⟩ hL hlen hLo hT
  case tableswitch df lo hi offs =>
    simp only [chkI, Bool.and_eq_true, decide_eq_true_eq] at hI
    obtain ⟨h1, rfl, h3, h4⟩ := hI
    have hd := of_decide_eq_true hDd
    replace h := sI_i h
    obtain ⟨n2, x, T, rfl, h⟩ := h
    have hT := okt hSo
    obtain ⟨hx1, hT⟩ := hT
    have hx1 : i32 x := hx1
    have ht := t32 hx1
    by_cases hin : 0 ≤ x ∧ x < (ts.length : Int)
    · obtain ⟨q, rfl, hq⟩ := j_in hin
      have hl : offs.toList.length = ts.length := by
        have := congrArg List.length h4
        simpa using this
      have hq2 : q < offs.toList.length := by omega
      obtain ⟨tg, htg⟩ : ∃ tg, ts[q]? = some tg := ⟨_, List.getElem?_eq_getElem hq⟩
      obtain ⟨off, hoff⟩ : ∃ off, offs.toList[q]? = some off := ⟨_, List.getElem?_eq_getElem hq2⟩
      have e := congrArg (fun l : List Int => l[q]?) h4
      simp only [List.getElem?_map, htg, hoff, Option.map_some] at e
      refine lv_tableIn hx hb hd (off := off) (tgt := tg) (by rw [ht]; omega) (by rw [ht]; omega) ?_ (Option.some.inj e) (go (sw_in (i := 0) q tg htg (by simp) h) hDy hL hlen hLo hT)
      rw [ht]
      have : ((q : Int) - 0).toNat = q := by omega
      rw [this, ← Array.getElem?_toList]
      exact hoff
    · refine lv_tableOut hx hb hd (tgt := a1) (by rw [ht]; omega) h1 (go (sw_out (i := 0) ?_ h) hDy hL hlen hLo hT)
      omega
  case lcmp =>
    simp only [chkD, Bool.and_eq_true, decide_eq_true_eq] at hDd
    obtain ⟨hd1, hd2⟩ := hDd
    cases Nat.eq_of_beq_eq_true hI
    replace h := sL_i h
    obtain ⟨n1, y, T, rfl, h⟩ := h
    replace h := sL_i h
    obtain ⟨n2, x, T, rfl, h⟩ := h
    have hT := okt hSo
    obtain ⟨hy, hT⟩ := hT
    replace hT := okt hT
    obtain ⟨hx1, hT⟩ := hT
    have hy : i64 y := hy
    have hx1 : i64 x := hx1
    split at hd2
    · rename_i o off heq
      simp only [Bool.and_eq_true, decide_eq_true_eq] at hd2
      obtain ⟨ho, h2⟩ := hd2
      subst ho
      refine W.lcmp hx hb hd1 ?_
      exact x_lif hx hb heq h2 hx1 hy (fun q => go (h.1 q) hDy hL hlen hLo hT) (fun q => go (h.2 q) hDy hL hlen hLo hT)
    · cases hd2
  case getfield idx =>
    simp only [chkI, Bool.and_eq_true, decide_eq_true_eq] at hI
    obtain ⟨h1, h2, h3⟩ := hI
    cases Nat.eq_of_beq_eq_true h1
    have hd := of_decide_eq_true hDd
    cases hf : fls[ts.headD 0]? with
    | none => rw [hf] at h2; cases h2
    | some q =>
      obtain ⟨o, i, ci, kf, pos⟩ := q
      rw [hf] at h2
      simp only [Bool.and_eq_true] at h2
      obtain ⟨e1, e2, e3, e4⟩ := h2
      cases Nat.eq_of_beq_eq_true e1
      cases Nat.eq_of_beq_eq_true e2
      cases Nat.eq_of_beq_eq_true e3
      cases Nat.eq_of_beq_eq_true e4
      obtain ⟨C, TF, N, hc, hk, hC1, hlk⟩ := fls_at hf
      obtain ⟨hn, hws, hcn, ty0, hty, hkt, hnm⟩ := xcl_ok _ _ hc
      dsimp only at hn hws hcn hty hkt hnm
      replace h := sO_i h
      obtain ⟨a, T, rfl, h⟩ := h
      have hT := okt hSo
      obtain ⟨ha, hT⟩ := hT
      obtain ⟨b, rfl⟩ := nat_of ha.1
      have hsh : SH[b]? = some (2, _) := ha.2
      have hkd := kt_kind (hkt _ hk)
      rw [h3] at hkd
      dsimp only at hkd
      refine va_get (D := D) hx hb hts hws hown hst.1 hDy.1 b (xW_at hsh) hc _ hk (hts _ hlk) (fun _ z => z) (v := mkV G (fget M b a2 a3 a4 c0)) ?_ hd (go h hDy hL hlen hLo (okc (fget_ok hDy.2.2.2.1 hsh (by rw [hn]; exact hk) h3 hkd) hT))
      rw [xfl_at (by rw [hn]; exact hk), h3, fget_mk hkd]
  case putfield idx =>
    simp only [chkI, Bool.and_eq_true, decide_eq_true_eq] at hI
    obtain ⟨h1, h2, h3, h4⟩ := hI
    cases Nat.eq_of_beq_eq_true h1
    have hd := of_decide_eq_true hDd
    cases hf : fls[ts.headD 0]? with
    | none => rw [hf] at h2; cases h2
    | some q =>
      obtain ⟨o, i, ci, kf, pos⟩ := q
      rw [hf] at h2
      simp only [Bool.and_eq_true] at h2
      obtain ⟨e1, e2, e3, e4⟩ := h2
      cases Nat.eq_of_beq_eq_true e1
      cases Nat.eq_of_beq_eq_true e2
      cases Nat.eq_of_beq_eq_true e3
      cases Nat.eq_of_beq_eq_true e4
      obtain ⟨C, TF, N, hc, hk, hC1, hlk⟩ := fls_at hf
      obtain ⟨hn, hws, hcn, ty0, hty, hkt, hnm⟩ := xcl_ok _ _ hc
      dsimp only at hn hws hcn hty hkt hnm
      rw [hc] at h4
      have hfin : (TF a2).2.2.2 = false := by simpa using h4
      have hkl : a2 < (xfs.getD a1 []).length := by rw [hn]; exact hk
      have hkt1 := hkt _ hk
      rw [h3] at hkt1
      replace h := s3_i h
      rcases h with ⟨rfl, h⟩ | ⟨rfl, h⟩
      · replace h := sI_i h
        obtain ⟨n0, x, T, rfl, h⟩ := h
        replace h := sO_i h
        obtain ⟨a, T, rfl, h⟩ := h
        have hT := okt hSo
        obtain ⟨hx1, hT⟩ := hT
        replace hT := okt hT
        obtain ⟨ha, hT⟩ := hT
        have hx1 : i32 x := hx1
        obtain ⟨b, rfl⟩ := nat_of ha.1
        have hsh : SH[b]? = some (2, _) := ha.2
        simp only [ktB, Bool.or_eq_true, Bool.and_eq_true, decide_eq_true_eq] at hkt1
        have hkk : xSim SH G cA D A Ls xs l d k (pc + 3) L T (up M b a2 x) Q ∧ narrow (ty0 a2) (.int (Int32.ofInt x)) = .int (Int32.ofInt x) ∧ fits (ty0 a2) (.int (Int32.ofInt x)) = true := by
          rcases hkt1 with ⟨q1, q2⟩ | ⟨q1, q2⟩
          · cases Nat.eq_of_beq_eq_true q1
            exact ⟨h, by rw [q2]; rfl, by rw [q2]; rfl⟩
          · cases Nat.eq_of_beq_eq_true q1
            replace h := rb_i h
            obtain ⟨hx2, h⟩ := h
            exact ⟨h, by rw [q2]; rcases hx2 with rfl | rfl <;> rfl, by rw [q2]; rcases hx2 with rfl | rfl <;> rfl⟩
        refine va_put (D := D) hx hb hts hws ty0 hty hnm hown hst.1 hDy.1 hDy.2.1 hDy.2.2.1 b (xW_at hsh) hc _ hk (hts _ hlk) (fun _ z => z) hfin (v := .int (Int32.ofInt x)) (hty _ hk) hkk.2.1 hkk.2.2 (by rw [xfl_len]; exact hkl) hd (fun H1 locs1 hP1 hD1 hS1 => ?_)
        rw [xW_up (i := (a2 : Int)) (v := x) hsh (congrArg (fun f => (Sum.inr (a1, f) : va_E)) (xfl_up hkl (by rw [h3]; show Value.int (Int32.ofInt (up M b a2 x b a2)) = _; rw [up_same])))] at hP1 hD1
        exact go hkk.1 ⟨hP1, hD1, hS1, okM_up hDy.2.2.2.1 hsh (okC_put (hDy.2.2.2.1 b _ hsh) (by rw [h3]; exact hx1)), xScr_up hDy.2.2.2.2⟩ hL hlen hLo hT
      · replace h := sL_i h
        obtain ⟨n0, x, T, rfl, h⟩ := h
        replace h := sO_i h
        obtain ⟨a, T, rfl, h⟩ := h
        have hT := okt hSo
        obtain ⟨hx1, hT⟩ := hT
        replace hT := okt hT
        obtain ⟨ha, hT⟩ := hT
        have hx1 : i64 x := hx1
        obtain ⟨b, rfl⟩ := nat_of ha.1
        have hsh : SH[b]? = some (2, _) := ha.2
        simp only [ktB, decide_eq_true_eq] at hkt1
        refine va_put (D := D) hx hb hts hws ty0 hty hnm hown hst.1 hDy.1 hDy.2.1 hDy.2.2.1 b (xW_at hsh) hc _ hk (hts _ hlk) (fun _ z => z) hfin (v := .long (Int64.ofInt x)) (hty _ hk) (by rw [hkt1]; rfl) (by rw [hkt1]; rfl) (by rw [xfl_len]; exact hkl) hd (fun H1 locs1 hP1 hD1 hS1 => ?_)
        rw [xW_up (i := (a2 : Int)) (v := x) hsh (congrArg (fun f => (Sum.inr (a1, f) : va_E)) (xfl_up hkl (by rw [h3]; show Value.long (Int64.ofInt (up M b a2 x b a2)) = _; rw [up_same])))] at hP1 hD1
        exact go h ⟨hP1, hD1, hS1, okM_up hDy.2.2.2.1 hsh (okC_put (hDy.2.2.2.1 b _ hsh) (by rw [h3]; exact hx1)), xScr_up hDy.2.2.2.2⟩ hL hlen hLo hT
  case ireturn =>
    simp only [chkI, Bool.and_eq_true] at hI
    obtain ⟨h1, h2, h3⟩ := hI
    cases Nat.eq_of_beq_eq_true h1
    have hd := of_decide_eq_true hDd
    replace h := r1_i h
    obtain ⟨n, x, rfl, h⟩ := h
    obtain ⟨hx1, -⟩ := okt hSo
    have e2 := Nat.eq_of_beq_eq_true h2
    have e3 := Nat.le_of_ble_eq_true h3
    have hq : Q (xI x) M ∧ (bol t.2.2.2.2.1 = 0 ∨ (bol t.2.2.2.2.1 = 1 ∧ (x = 0 ∨ x = 1))) := by
      replace h := sZ_i h
      rcases h with ⟨q, h⟩ | ⟨q, h⟩
      · exact ⟨h, Or.inl (by omega)⟩
      · replace h := rb_i h
        obtain ⟨hx2, h⟩ := h
        exact ⟨h, Or.inr ⟨by omega, hx2⟩⟩
    exact hH (xI x) M H locs pc ls .ireturn hq.1 hx1 hDy hd ⟨rfl, hq.2⟩
  case lreturn =>
    simp only [chkI, Bool.and_eq_true] at hI
    obtain ⟨h1, h2⟩ := hI
    cases Nat.eq_of_beq_eq_true h1
    have hd := of_decide_eq_true hDd
    replace h := r2_i h
    obtain ⟨n, x, rfl, h⟩ := h
    obtain ⟨hx1, -⟩ := okt hSo
    exact hH (xL x) M H locs pc ls .lreturn h hx1 hDy hd ⟨rfl, Nat.eq_of_beq_eq_true h2⟩
  case return_ =>
    simp only [chkI, Bool.and_eq_true] at hI
    obtain ⟨h1, h2⟩ := hI
    cases Nat.eq_of_beq_eq_true h1
    have hd := of_decide_eq_true hDd
    replace h := r0_i h
    obtain ⟨rfl, h⟩ := h
    exact hH xU M H locs pc ls .return_ h trivial hDy hd ⟨rfl, Nat.eq_of_beq_eq_true h2⟩
  case invokevirtual idx =>
    simp only [chkI, Bool.and_eq_true] at hI
    obtain ⟨hlen3, hI⟩ := hI
    cases Nat.eq_of_beq_eq_true hlen3
    have hd := of_decide_eq_true hDd
    replace h := sMv_i h
    rcases h with ⟨rfl, h⟩ | ⟨rfl, h⟩ | ⟨hne1, hne2, h⟩
    · replace h := sS_i h
      obtain ⟨n, a, T, rfl, h⟩ := h
      replace h := sW_i h
      obtain ⟨hwd, h⟩ := h
      have hT := okt hSo
      obtain ⟨-, hT⟩ := hT
      exact x_strlen hx hb hml hown hts hst hDy.2.2.1 hL.1 hlen (by omega) (by omega) hrc hrs hI hwd hd (go h hDy hL hlen hLo (okc (v := xI 7) ⟨by decide, by decide⟩ hT))
    · replace h := sI_i h
      obtain ⟨n0, j, T, rfl, h⟩ := h
      replace h := sS_i h
      obtain ⟨n, a, T, rfl, h⟩ := h
      replace h := sW_i h
      obtain ⟨hwd, h⟩ := h
      obtain ⟨hin, h⟩ := h
      have hT := okt hSo
      obtain ⟨hj, hT⟩ := hT
      replace hT := okt hT
      obtain ⟨-, hT⟩ := hT
      exact x_charAt hx hb hml hown hts hst hDy.2.2.1 hL.1 hlen (by omega) (by omega) hrc hrs hI hwd hin hd (go h hDy hL hlen hLo (okc (v := xI (strv j)) (strv_ok j) hT))
    · have hI : chkVc t.1 idx a1 a2 a3 a4 c0 ts = true := by
        revert hI
        unfold selV
        split
        · exact absurd rfl hne1
        · exact absurd rfl hne2
        · exact id
      unfold chkVc at hI
    
      replace h := sC_i h
      obtain ⟨hn1, hn2, hn3, h⟩ := h
      replace h := sH_i h
      obtain ⟨⟨x, As, hrecv⟩, h⟩ := h
      replace h := sd_i h
      obtain ⟨d', rfl, h⟩ := h
      cases hm : mls[ts.headD 0]? with
      | none => rw [hm] at hI; exact absurd hI (by simp)
      | some q =>
        obtain ⟨o, i, k1, nest, pos⟩ := q
        rw [hm] at hI
        cases ht1 : mts[a1]? with
        | none => rw [ht1] at hI; exact absurd hI (by simp)
        | some t1 =>
          obtain ⟨ow, st, y, maxL, ret, pcw, pi, pk, ps, np⟩ := t1
          rw [ht1] at hI
          simp only [Bool.and_eq_true, decide_eq_true_eq, Bool.not_eq_true'] at hI
          obtain ⟨⟨e1, e2, e3, e4⟩, e5, e6, e7, e8, e9⟩ := hI
          cases Nat.eq_of_beq_eq_true e1
          cases Nat.eq_of_beq_eq_true e2
          cases Nat.eq_of_beq_eq_true e3
          cases Nat.eq_of_beq_eq_true e4
          cases Nat.eq_of_beq_eq_true e5
          cases Nat.eq_of_beq_eq_true e6
          cases Nat.eq_of_beq_eq_true e8
          subst e7
          have hnl : a1 ≠ kLaw_law := fun q => by
            rw [q] at ht1
            have : some (10, 1) = (mts[kLaw_law]?).map (fun t => (t.1, t.2.1)) := by decide +kernel
            rw [ht1] at this
            simp at this
          have htok := mts_tok ht1 hnl
          have hcm := code_mem htok
          have htk := htok
          simp only [xtok, Bool.and_eq_true, decide_eq_true_eq] at htk
          obtain ⟨hcn, -, hini, hkind, hpl, hny1, hny2, hnp⟩ := htk
          have hmx : a3 ≤ 40 := Nat.le_of_ble_eq_true (List.all_eq_true.mp mts_max _ (List.mem_of_getElem? ht1))
          have hlk := mls_at hm
          have hoks : ∀ v ∈ (S.take (np + 1)).reverse, okV SH v := fun v hv => hSo v (List.mem_of_mem_take (List.mem_reverse.mp hv))
          have hokT : ∀ v ∈ S.drop (np + 1), okV SH v := fun v hv => hSo v (List.mem_of_mem_drop hv)
          have hMet := x_met (l := l) ht1 hnl htok hn3 hoks hDy.2.1 hDy.2.2.2.1 hDy.2.2.2.2 h
          have hG : GoodIn xTT (Cond.code y (xbyt pcw) a3 ret :: xTT) := fun w hw => by
            rcases List.mem_cons.mp hw with e | e
            · rw [e]; exact tt_good _ hcm
            · exact tt_good w e
          have hbl : FrameBlind (va_Pc (((S.take (np + 1)).reverse).map (mkV G)) (fun U => xStat G cA D A Ls xs U ∧ va_P D xcl (xW SH G cA M) U.heap)) := fun a U g mk q => ⟨q.1, xStat_same rfl rfl q.2.1, q.2.2⟩
          have hpre : ∀ U : State, U.heap = H → s.WarmedH U.vm → (fun U => xStat G cA D A Ls xs U ∧ va_P D xcl (xW SH G cA M) U.heap) U := fun U hU hW => ⟨xStat_warm hW hU hDy.2.2.1 hst, by show va_P D xcl _ U.heap; rw [hU]; exact hDy.1⟩
          have hroom : d' + 8 + 1 ≤ R.frames ∧ 8 + (a3 + 11) + (60 * d' + 200) ≤ R.locals := ⟨by omega, by omega⟩
          have hwid : 2 * (F0 m pc ls (S.map (mkV G))).monitorRoom + (((S.drop (np + 1)).map (mkV G)).map fun v => v.category).sum ≤ 8 := by
            rw [wid_cat]
            show 2 * 0 + _ ≤ 8
            omega
    
          simp only [xmok, ht1, decide_eq_true_eq] at hlk
          rw [Int.toNat_natCast] at hrecv
          have hrv : okV SH (2, ow, x) := hoks _ (by rw [hrecv]; exact List.mem_cons_self)
          obtain ⟨b, rfl⟩ := nat_of hrv.1
          have hsh : SH[b]? = some (2, ow) := hrv.2
          obtain ⟨rc, hrc1, -⟩ := hDy.1 b _ (xW_at hsh)
          obtain ⟨-, -, hcn2, -⟩ := xcl_ok _ _ hrc1
          have hcell := va_recv hst.1 hDy.1 hrc1 (xW_at hsh)
          have hnA : As.length = np := by
            have := congrArg List.length hrecv
            simp only [List.length_reverse, List.length_take, List.length_cons] at this
            omega
          rw [hrecv] at hMet hbl
          have hst0 : S.map (mkV G) = (As.map (mkV G)).reverse ++ .ref (G.1 b) :: (S.drop (np + 1)).map (mkV G) := by
            rw [map_split G S (np + 1), hrecv, List.map_cons, List.reverse_cons, List.append_assoc]
            rfl
          have hCB : CallB R s args (xcn t.1) idx y (xbyt pcw) a3 ret (Cond.code y (xbyt pcw) a3 ret :: xTT) { frames := d' + 8, cells := 0, slots := 0, locals := 60 * d' + 200 } 0 0 np := callB_of np hts hG rfl rfl rfl (hts _ (tt_mem hini rfl)) (hts _ (tt_mem hlk rfl)) ⟨hny1, hny2, hnp⟩ hroom
          refine x_back (va_runV (As := As.map (mkV G)) (rest := (S.drop (np + 1)).map (mkV G)) (C := y.cls) (b := G.1 b) ⟨hx, hb, hml, hown, hts⟩ hMet ⟨hCB, hts _ (tt_mem hkind.1 rfl), hts _ (tt_mem hkind.2 rfl)⟩ ⟨hbl, by rw [← hcn, hcn2]; exact hcell, fun U hU hW => ⟨rfl, hpre U hU hW⟩⟩ rfl (by rw [List.length_map]; exact hnA) (by show ls.size = _; rw [hL.1]; exact hlen) hst0 hwid hd ⟨by omega, by omega⟩) hDy.2.2.1 (fun r N H1 locs1 hq hr hk2 hdy1 => ?_)
          rw [push_eq (G := G) rfl hk2 e9]
          exact go hq hdy1 hL hlen hLo (okV_push hr hokT)
  case invokestatic idx =>
    simp only [chkI, Bool.and_eq_true] at hI
    obtain ⟨hlen3, hI⟩ := hI
    cases Nat.eq_of_beq_eq_true hlen3
    have hd := of_decide_eq_true hDd
    replace h := sMs_i h
    rcases h with ⟨rfl, h⟩ | ⟨rfl, h⟩ | ⟨rfl, h⟩ | ⟨rfl, h⟩ | ⟨hne1, hne2, hne3, hne4, h⟩
    · replace h := sD_i h
      obtain ⟨n, x, T, rfl, h⟩ := h
      replace h := sW_i h
      obtain ⟨hwd, hdk, h⟩ := h
      have hT := okt hSo
      obtain ⟨-, hT⟩ := hT
      have hI : (Nat.beq t.1 9 && Nat.beq idx 481) = true := hI
      rw [Bool.and_eq_true] at hI
      rw [Nat.eq_of_beq_eq_true hI.1] at hown
      cases Nat.eq_of_beq_eq_true hI.2
      exact x_d2l hx hb hml hown hts hst hDy.2.2.1 hL.1 hlen (by omega) (by omega) hrc hrs hdk hwd hd (go h hDy hL hlen hLo (okc (v := xL (d2l x)) (i64_t _) hT))
    · replace h := sI_i h
      obtain ⟨n1, y, T, rfl, h⟩ := h
      replace h := sI_i h
      obtain ⟨n2, x, T, rfl, h⟩ := h
      replace h := sW_i h
      obtain ⟨hwd, h⟩ := h
      have hT := okt hSo
      obtain ⟨hy, hT⟩ := hT
      replace hT := okt hT
      obtain ⟨hx1, hT⟩ := hT
      have hy : i32 y := hy
      have hx1 : i32 x := hx1
      refine va_mmin hx hb (by rw [hL.1, hlen]; exact hml) hown (hts _ (chkMa_in hI)) (hts _ ma_1) (hts _ ma_2) (hts _ ma_3) (by omega) (by rw [wid_cat]; omega) hrc hrs hd ?_
      have hg := go h hDy hL hlen hLo (okc (v := xI (mn x y)) (mn_i hx1 hy) hT)
      rw [List.map_cons, show mkV G (xI (mn x y)) = .int (if Int32.ofInt y < Int32.ofInt x then Int32.ofInt y else Int32.ofInt x) from congrArg Value.int (mn_32 hx1 hy)] at hg
      exact hg
    · replace h := sL_i h
      obtain ⟨n1, y, T, rfl, h⟩ := h
      replace h := sL_i h
      obtain ⟨n2, x, T, rfl, h⟩ := h
      replace h := sW_i h
      obtain ⟨hwd, h⟩ := h
      have hT := okt hSo
      obtain ⟨hy, hT⟩ := hT
      replace hT := okt hT
      obtain ⟨hx1, hT⟩ := hT
      have hy : i64 y := hy
      have hx1 : i64 x := hx1
      refine va_mmax_long hx hb (by rw [hL.1, hlen]; exact hml) hown (hts _ (chkMa_in hI)) (hts _ mb_1) (hts _ ma_2) (hts _ mb_3) (by omega) (by rw [wid_cat]; omega) hrc hrs hd ?_
      have hg := go h hDy hL hlen hLo (okc (v := xL (mx x y)) (mx_i hx1 hy) hT)
      rw [List.map_cons, show mkV G (xL (mx x y)) = .long (if Int64.ofInt y < Int64.ofInt x then Int64.ofInt x else Int64.ofInt y) from congrArg Value.long (mx_64 hx1 hy)] at hg
      exact hg
    · replace h := sL_i h
      obtain ⟨n1, y, T, rfl, h⟩ := h
      replace h := sL_i h
      obtain ⟨n2, x, T, rfl, h⟩ := h
      replace h := sW_i h
      obtain ⟨hwd, h⟩ := h
      have hT := okt hSo
      obtain ⟨hy, hT⟩ := hT
      replace hT := okt hT
      obtain ⟨hx1, hT⟩ := hT
      have hy : i64 y := hy
      have hx1 : i64 x := hx1
      refine va_mmin_long hx hb (by rw [hL.1, hlen]; exact hml) hown (hts _ (chkMa_in hI)) (hts _ mc_1) (hts _ ma_2) (hts _ mc_3) (by omega) (by rw [wid_cat]; omega) hrc hrs hd ?_
      have hg := go h hDy hL hlen hLo (okc (v := xL (mn x y)) (mn_i hx1 hy) hT)
      rw [List.map_cons, show mkV G (xL (mn x y)) = .long (if Int64.ofInt y < Int64.ofInt x then Int64.ofInt y else Int64.ofInt x) from congrArg Value.long (mn_64 hx1 hy)] at hg
      exact hg
    · have hI : chkSc t.1 idx a1 a2 a3 a4 ts = true := by
        revert hI
        unfold selS
        split
        · exact absurd rfl hne1
        · exact absurd rfl hne2
        · exact absurd rfl hne3
        · exact absurd rfl hne4
        · exact id
      unfold chkSc at hI
    
      replace h := sC_i h
      obtain ⟨hn1, hn2, hn3, h⟩ := h
      skip
      replace h := sd_i h
      obtain ⟨d', rfl, h⟩ := h
      cases hm : mls[ts.headD 0]? with
      | none => rw [hm] at hI; exact absurd hI (by simp)
      | some q =>
        obtain ⟨o, i, k1, nest, pos⟩ := q
        rw [hm] at hI
        cases ht1 : mts[a1]? with
        | none => rw [ht1] at hI; exact absurd hI (by simp)
        | some t1 =>
          obtain ⟨ow, st, y, maxL, ret, pcw, pi, pk, ps, np⟩ := t1
          rw [ht1] at hI
          simp only [Bool.and_eq_true, decide_eq_true_eq, Bool.not_eq_true'] at hI
          obtain ⟨⟨e1, e2, e3⟩, e5, e6, e8, e9, e10⟩ := hI
          cases Nat.eq_of_beq_eq_true e1
          cases Nat.eq_of_beq_eq_true e2
          cases Nat.eq_of_beq_eq_true e3
          cases Nat.eq_of_beq_eq_true e5
          cases Nat.eq_of_beq_eq_true e6
          cases Nat.eq_of_beq_eq_true e8
          have hnl : a1 ≠ kLaw_law := fun q => by
            rw [q] at e10
            exact absurd e10 (by decide)
          have htok := mts_tok ht1 hnl
          have hcm := code_mem htok
          have htk := htok
          simp only [xtok, Bool.and_eq_true, decide_eq_true_eq] at htk
          obtain ⟨hcn, -, hini, hkind, hpl, hny1, hny2, hnp⟩ := htk
          have hmx : a3 ≤ 40 := Nat.le_of_ble_eq_true (List.all_eq_true.mp mts_max _ (List.mem_of_getElem? ht1))
          have hlk := mls_at hm
          have hoks : ∀ v ∈ (S.take a2).reverse, okV SH v := fun v hv => hSo v (List.mem_of_mem_take (List.mem_reverse.mp hv))
          have hokT : ∀ v ∈ S.drop a2, okV SH v := fun v hv => hSo v (List.mem_of_mem_drop hv)
          have hMet := x_met (l := l) ht1 hnl htok hn3 hoks hDy.2.1 hDy.2.2.2.1 hDy.2.2.2.2 h
          have hG : GoodIn xTT (Cond.code y (xbyt pcw) a3 ret :: xTT) := fun w hw => by
            rcases List.mem_cons.mp hw with e | e
            · rw [e]; exact tt_good _ hcm
            · exact tt_good w e
          have hbl : FrameBlind (va_Pc (((S.take a2).reverse).map (mkV G)) (fun U => xStat G cA D A Ls xs U ∧ va_P D xcl (xW SH G cA M) U.heap)) := fun a U g mk q => ⟨q.1, xStat_same rfl rfl q.2.1, q.2.2⟩
          have hpre : ∀ U : State, U.heap = H → s.WarmedH U.vm → (fun U => xStat G cA D A Ls xs U ∧ va_P D xcl (xW SH G cA M) U.heap) U := fun U hU hW => ⟨xStat_warm hW hU hDy.2.2.1 hst, by show va_P D xcl _ U.heap; rw [hU]; exact hDy.1⟩
          have hroom : d' + 8 + 1 ≤ R.frames ∧ 8 + (a3 + 11) + (60 * d' + 200) ≤ R.locals := ⟨by omega, by omega⟩
          have hwid : 2 * (F0 m pc ls (S.map (mkV G))).monitorRoom + (((S.drop a2).map (mkV G)).map fun v => v.category).sum ≤ 8 := by
            rw [wid_cat]
            show 2 * 0 + _ ≤ 8
            omega
    
          have hnA : (((S.take a2).reverse).map (mkV G)).length = a2 := by
            rw [List.length_map, List.length_reverse, List.length_take]
            omega
          have hst0 := map_split G S a2
          have hkind : lw_tbl[pk]? = some (Cond.static y) := hkind
          cases nest with
          | zero =>
            simp only [xmok, ht1, decide_eq_true_eq] at hlk
            have hCB : CallB R s args (xcn t.1) idx y (xbyt pcw) a3 ret (Cond.code y (xbyt pcw) a3 ret :: xTT) { frames := d' + 8, cells := 0, slots := 0, locals := 60 * d' + 200 } 0 0 a2 := callB_of a2 hts hG rfl rfl rfl (hts _ (tt_mem hini rfl)) (hts _ (tt_mem hlk rfl)) ⟨hny1, hny2, hnp⟩ hroom
            refine x_back (va_runS (As := ((S.take a2).reverse).map (mkV G)) (rest := (S.drop a2).map (mkV G)) ⟨hx, hb, hml, hown, hts⟩ hMet ⟨hCB, hts _ (tt_mem hkind rfl)⟩ ⟨hbl, fun U hU hW => ⟨rfl, hpre U hU hW⟩⟩ rfl hnA (by show ls.size = _; rw [hL.1]; exact hlen) hst0 hwid hd ⟨by omega, by omega⟩) hDy.2.2.1 (fun r N H1 locs1 hq hr hk2 hdy1 => ?_)
            rw [push_eq (G := G) rfl hk2 e9]
            exact go hq hdy1 hL hlen hLo (okV_push hr hokT)
          | succ nest =>
            simp only [xmok, ht1, decide_eq_true_eq] at hlk
            have hCB : va_CN R s args (xcn t.1) idx y "RouteStrides" (xbyt pcw) a3 ret (Cond.code y (xbyt pcw) a3 ret :: xTT) { frames := d' + 8, cells := 0, slots := 0, locals := 60 * d' + 200 } 0 0 a2 := va_cnB a2 hts hG rfl rfl rfl (hst.2.2.2.2.2 _ _ _ (List.mem_of_getElem? hlk)) (hts _ (tt_mem hini rfl)) ⟨hny1, hny2, hnp⟩ hroom
            refine x_back (va_runSN (As := ((S.take a2).reverse).map (mkV G)) (rest := (S.drop a2).map (mkV G)) ⟨hx, hb, hml, hown, hts⟩ hMet ⟨hCB, hts _ (tt_mem hkind rfl), trivial⟩ ⟨hbl, fun U hU hW => ⟨rfl, hpre U hU hW⟩⟩ rfl hnA (by show ls.size = _; rw [hL.1]; exact hlen) hst0 hwid hd ⟨by omega, by omega⟩) hDy.2.2.1 (fun r N H1 locs1 hq hr hk2 hdy1 => ?_)
            rw [push_eq (G := G) rfl hk2 e9]
            exact go hq hdy1 hL hlen hLo (okV_push hr hokT)

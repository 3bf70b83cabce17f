/-! THE LAW'S FIRST SIXTEEN BYTES. -/
theorem LR_gen {G G2 : xG} {ls : Array Slot} {L : List xV} (h : ∀ v ∈ L, v.1 = 9 ∨ mkV G2 v = mkV G v) (hL : LR G ls L) : LR G2 ls L := by
  refine ⟨hL.1, hL.2.1, fun i v hi h9 => ?_⟩
  rcases h v (List.mem_of_getElem? hi) with q | q
  · exact absurd q h9
  · rw [q]; exact hL.2.2 i v hi h9
set_option maxRecDepth 100000 in
theorem sa_mts : mts[kMo_startsAnew]? = some (9, 0, ⟨"RouteStridesModel", "startsAnew", "()V"⟩, 2, none, 1147, 138, 1146, 46, 0) := by rfl
set_option maxRecDepth 100000 in
theorem lt_mts : mts[kMo_laysTable]? = some (9, 0, ⟨"RouteStridesModel", "laysTable", "(I[II)V"⟩, 7, none, 1151, 138, 1150, 47, 3) := by rfl
set_option maxRecDepth 100000 in
theorem lw_mts : mts[263]? = some (10, 1, ⟨"RouteStridesLaw", "law", "([I)Z"⟩, 4, some .boolean, 0, 0, 0, 0, 1) := by rfl
theorem kt8 : kts[8]? = some (⟨"RouteStrides", "<init>", "()V"⟩, 2, 150, 129, 149) := rfl
theorem kt9 : kts[9]? = some (⟨"RouteStridesModel", "<init>", "()V"⟩, 1, 1141, 138, 1140) := rfl
theorem d9_271 : decode (xbyt 1141) 271 = .ok (.aload_n 0, 1) := by decide +kernel
theorem d9_272 : decode (xbyt 1141) 272 = .ok (.invokevirtual 110, 3) := by decide +kernel
theorem d9_275 : decode (xbyt 1141) 275 = .ok (.aload_n 0, 1) := by decide +kernel
theorem d9_276 : decode (xbyt 1141) 276 = .ok (.iconst 0, 1) := by decide +kernel
theorem d9_277 : decode (xbyt 1141) 277 = .ok (.aload_n 0, 1) := by decide +kernel
theorem d9_278 : decode (xbyt 1141) 278 = .ok (.getfield 7, 3) := by decide +kernel
theorem d9_281 : decode (xbyt 1141) 281 = .ok (.iconst 0, 1) := by decide +kernel
theorem d9_282 : decode (xbyt 1141) 282 = .ok (.invokevirtual 113, 3) := by decide +kernel
theorem dl_0 : decode code 0 = .ok (.new 7, 3) := by decide +kernel
theorem dl_3 : decode code 3 = .ok (.dup, 1) := by decide +kernel
theorem dl_4 : decode code 4 = .ok (.invokespecial 9, 3) := by decide +kernel
theorem dl_7 : decode code 7 = .ok (.astore_n 1, 1) := by decide +kernel
theorem dl_8 : decode code 8 = .ok (.new 10, 3) := by decide +kernel
theorem dl_11 : decode code 11 = .ok (.dup, 1) := by decide +kernel
theorem dl_12 : decode code 12 = .ok (.invokespecial 12, 3) := by decide +kernel
theorem dl_15 : decode code 15 = .ok (.astore_n 2, 1) := by decide +kernel
theorem ml_135 : mls[135]? = some (9, 110, kMo_startsAnew, 0, (mls.getD 135 default).2.2.2.2) := by decide +kernel
theorem ml_136 : mls[136]? = some (9, 113, kMo_laysTable, 0, (mls.getD 136 default).2.2.2.2) := by decide +kernel
theorem fl_125 : fls[125]? = some (9, 7, 9, 0, (fls.getD 125 default).2.2.2.2) := by decide +kernel
theorem lk_1 : kLk 0 10 9 148 ⟨"RouteStrides", "<init>", "()V"⟩ := show lw_tbl[148]? = some (Cond.methodLink (xcn 10) 9 ⟨"RouteStrides", "<init>", "()V"⟩) by decide +kernel
theorem lk_2 : kLk 0 10 12 1139 ⟨"RouteStridesModel", "<init>", "()V"⟩ := show lw_tbl[1139]? = some (Cond.methodLink (xcn 10) 12 ⟨"RouteStridesModel", "<init>", "()V"⟩) by decide +kernel
theorem tabB_ok {SH : xSH} {P : List cO} {a n : Nat} {B : xM} (hB : ∀ b j : Nat, B b j = 0) (h : tabB SH P a n = true) : SH[a]? = some (14, n) ∧ ∀ j : Nat, j < n → 0 < cM B P a j ∧ SH[(cM B P a j - 1).toNat]? = some (2, xTab) := by
  unfold tabB at h
  rw [Bool.and_eq_true] at h
  refine ⟨of_decide_eq_true h.1, fun j hj => ?_⟩
  have h1 := List.all_eq_true.mp h.2 j (List.mem_range.mpr hj)
  simp only [Bool.and_eq_true, decide_eq_true_eq] at h1
  rw [rd_ok hB]
  exact h1
/-- the model's constructor: its contract out of what its two last calls do -/
theorem mo_met {cA : Nat → ClassId} {D : va_G} {A : Nat → Prop} {Ls : Nat} {xs : Nat → Int32} {l : Launch} {N0 : Nat} {G : xG} {Init : xM → Prop} (hA : ∀ q, N0 ≤ q → A q) (hTF : kTF cA D A Ls xs l)
    (hT1 : ∀ G : xG, xSim fSH G cA D A Ls xs l 1300 kMo_startsAnew 0 (lay [xO 9 198] 2) [] (cM (bM Ls xs) mP) (fun _ N => xSim fSH G cA D A Ls xs l 1300 kMo_laysTable 0 (lay [xO 9 198, xI 0, xAI 259 199, xI 0] 7) [] N (fun _ N2 => Init N2)))
    (hD : va_D A (xW (mSH0 ++ [(13, 9)]) G cA (cM (bM Ls xs) mP0))) (hM : okM (mSH0 ++ [(13, 9)]) (cM (bM Ls xs) mP0)) (hO : okO (mSH0 ++ [(13, 9)]) (cM (bM Ls xs) mP0)) (hS : xScr Ls xs (cM (bM Ls xs) mP0)) :
    Met l ⟨"RouteStridesModel", "<init>", "()V"⟩ (Cond.code ⟨"RouteStridesModel", "<init>", "()V"⟩ (xbyt 1141) 1 none :: xTT) { frames := 1301 + 8, cells := moR.2.2.2.2.2.1, slots := moR.2.2.2.2.2.2, locals := 60 * 1301 + 200 } (va_Pc [.ref (G.1 198)] (kPre (mSH0 ++ [(13, 9)]) G cA D A Ls xs N0 (cM (bM Ls xs) mP0))) (kQc fSH G cA D A Ls xs 199 Init) moR.2.2.2.2.2.1 moR.2.2.2.2.2.2 A := by
  have hb := mo_b
  simp only [Bool.and_eq_true, decide_eq_true_eq] at hb
  obtain ⟨b1, b2, b3, -, -, b6⟩ := hb
  have hr := rs_b
  simp only [Bool.and_eq_true, decide_eq_true_eq] at hr
  obtain ⟨-, -, -, -, -, -, r7, r8⟩ := hr
  have r7 := Nat.eq_of_beq_eq_true r7
  have hlen : (mSH0 ++ [(13, 9)]).length = 199 := by rw [List.length_append, r7]; rfl
  have hpl : ∀ q ∈ mP0, q.2.1 < (mSH0 ++ [(13, 9)]).length := by
    intro q hq
    have h1 : q.2.1 < 198 := Nat.le_of_ble_eq_true (List.all_eq_true.mp r8 q hq)
    rw [hlen]
    omega
  obtain ⟨-, -, -, -, hs⟩ := c_sound (N0 := N0) (bM_0 (Ls := Ls) (xs := xs)) hA hTF _ _ _ _ _ _ _ _ _ _ _ _ mo_eq
  have hmo : moR = (271, [rV 198], [], moR.2.2.2.1, moR.2.2.2.2.1, moR.2.2.2.2.2.1, moR.2.2.2.2.2.2) := by
    rw [← b1, ← b2, ← b3]
  rw [hmo] at hs
  have hm := k_met (N0 := N0) (z := 0) (a := 198) (G := G) (SH2 := fSH) (Qm := Init) kt9 (kok_at kt9) hA (by rw [hlen]; omega) hs hD hM hO hpl hS ?_
  · rw [hlen] at hm
    exact hm
  · intro G2 p e R s m below meth c Qf H locs ls hcx hrc hrs hag hin kk
    obtain ⟨q, hq, hx, hb, hml, hown, hts, hst, hrf, hrl, hnm, hax, hN⟩ := id hcx
    rw [kt9] at hq
    cases hq
    obtain ⟨hDy, hO2, hPl, hL, hlen2, hLo, -⟩ := hin
    have hDy1 : xDyn fSH G2 cA D A Ls xs s.heap (cM (bM Ls xs) mP) H locs := by
      have h1 := (cDone_ok bM_0 198 hDy hO2).1
      rw [← b6]
      exact h1
    have hl0 : ls[0]? = some (.val (.ref (G2.1 198))) := hL.2.2 0 (rV 198) rfl (by decide)
    have hls : ls.size = 1 := hL.1
    have hsh : fSH[198]? = some (2, 9) := by rfl
    refine lv_aload_n hx hb d9_271 rfl hl0 ?_
    refine k_virt (As := []) (b := 198) (rest := []) sa_mts (by decide) (hT1 G2) (show 1 ≤ 2 by decide) (fun _ hv => by cases hv) rfl hx hb hml hown hts hst hDy1 hsh (mls_at ml_135) (by omega) (by omega) hrc hrs hls (by decide) d9_272 (fun r N H1 locs1 hN1 hDy2 => ?_)
    refine lv_aload_n hx hb d9_275 rfl hl0 ?_
    refine lv_iconst hx hb d9_276 rfl ?_
    refine lv_aload_n hx hb d9_277 rfl hl0 ?_
    obtain ⟨C, TF, NN, hcl, hkf, hC1, hlk⟩ := fls_at fl_125
    obtain ⟨hn, hws, hcn, -⟩ := xcl_ok _ _ hcl
    dsimp only at hn hws hcn
    refine va_get (D := D) hx hb hts hws hown hst.1 hDy2.1 198 (xW_at hsh) hcl 0 hkf (hts _ hlk) (fun _ z => z) (v := .ref (G2.1 199)) ?_ d9_278 ?_
    · rw [xfl_at (by rw [hn]; exact hkf)]
      rfl
    · refine lv_iconst hx hb d9_281 rfl ?_
      exact k_virt (As := [xI 0, xAI 259 199, xI 0]) (b := 198) (rest := []) lt_mts (by decide) hN1 (show 4 ≤ 7 by decide) (by
        intro v hv
        simp only [List.mem_cons, List.not_mem_nil, or_false] at hv
        rcases hv with rfl | rfl | rfl
        · exact ⟨by decide, by decide⟩
        · exact ⟨by decide, rfl⟩
        · exact ⟨by decide, by decide⟩) rfl hx hb hml hown hts hst hDy2 hsh (mls_at ml_136) (by omega) (by omega) hrc hrs hls (by decide) d9_282 (fun r N2 H2 locs2 hN2 hDy3 => kk G2 N2 H2 locs2 ls hag hN2 hDy3)
set_option maxHeartbeats 1000000 in
theorem law_start {p : Program} {e : Env} {s : State} {m : MethodId} {below : List Frame} {meth : Method} {c : Code} {l : Launch} {b L : Nat} {xs : Nat → Int32} {Qf : State → Prop} {Init : xM → Prop} (hx : p.tables.exec = Jvm.exec) (hb : c.code = code) (hml : c.maxLocals = 4) (hown : s.vm.findClass "RouteStridesLaw" = some m.cls) (hts : ∀ w ∈ lw_tbl, w.before #[Value.ref b] s = true) (hgv : (Jvm.Cond.and given_1 narrow_1).before #[Value.ref b] s = true) (hX : va_X b L xs s s.heap) (hbl : b < s.heap.size) (hL : L ≤ 3072)
    (hTF : ∀ (cA : Nat → ClassId) (D : va_G) (A : Nat → Prop), kTF cA D A L xs l)
    (hT1 : ∀ (G : xG) (cA : Nat → ClassId) (D : va_G) (A : Nat → Prop), xSim fSH G cA D A L xs l 1300 kMo_startsAnew 0 (lay [xO 9 198] 2) [] (cM (bM L xs) mP) (fun _ N => xSim fSH G cA D A L xs l 1300 kMo_laysTable 0 (lay [xO 9 198, xI 0, xAI 259 199, xI 0] 7) [] N (fun _ N2 => Init N2)))
    (hLaw : ∀ (G : xG) (cA : Nat → ClassId) (D : va_G) (A : Nat → Prop) (N : xM), Init N → xSim fSH G cA D A L xs l 1300 263 16 [xX, xO 8 0, xO 9 198, xU] [] N (fun r _ => r = xI 1))
    (hRet : ∀ (H : Heap) (pc : Nat) (ls : Array Slot), decode code pc = .ok (.ireturn, 1) → W p l e room_1 s m #[Value.ref b] below meth c H [] 600000 7302250 Qf (F0 m pc ls [.int 1])) :
    W p l e room_1 s m #[Value.ref b] below meth c s.heap [] 0 0 Qf (entryFrame m ([Value.ref b] : List Value).toArray 4) := by
  obtain ⟨G, cA, D, hGb, hst, hax⟩ := k_start hts hgv hX hbl
  have htx : ∀ w ∈ xTT, w.before #[Value.ref b] s = true := fun w hw => hts w (tt_tbl hw)
  have hA : ∀ q : Nat, s.heap.size ≤ q → (fun q : Nat => s.heap.size ≤ q) q := fun _ h => h
  have hrb := rs_b
  simp only [Bool.and_eq_true, decide_eq_true_eq] at hrb
  obtain ⟨r1, r2, r3, r4, r5, r6, r7, r8⟩ := hrb
  have r3 := Nat.le_of_ble_eq_true r3
  have r4 := Nat.le_of_ble_eq_true r4
  have r7 := Nat.eq_of_beq_eq_true r7
  have hmb := mo_b
  simp only [Bool.and_eq_true, decide_eq_true_eq] at hmb
  obtain ⟨-, -, -, m4, m5, -⟩ := hmb
  have m4 := Nat.le_of_ble_eq_true m4
  have m5 := Nat.le_of_ble_eq_true m5
  have hLR := LR_entry (G := G) (as := [xX]) (n := 4) (show 1 ≤ 4 by decide)
  rw [lg_entry_eq]
  have e0 : ([Value.ref b] : List Value) = [xX].map (mkV G) := by
    show [Value.ref b] = [Value.ref G.2.2]
    rw [hGb]
  rw [e0]
  generalize (lg_sl ([xX].map (mkV G)) ++ List.replicate (4 - (lg_sl ([xX].map (mkV G))).length) Slot.unset).toArray = ls at hLR ⊢
  rw [← e0]
  have hLR : LR G ls [xX, xU, xU, xU] := hLR
  have hDy0 : xDyn [] G cA D (fun q : Nat => s.heap.size ≤ q) L xs s.heap (cM (bM L xs) []) s.heap [] := ⟨fun k q h => by simp [xW] at h, ⟨fun i j p q h => by simp [xW] at h, fun k q h => by simp [xW] at h⟩, va_S.rf, fun a sh h => by simp at h, ⟨rfl, hL, fun j _ => by
    show bM L xs (-1) ((j : Int) + 1) = _
    unfold bM
    rw [if_pos rfl, if_neg (by omega), show ((j : Int) + 1 - 1).toNat = j by omega]⟩⟩
  have hO0 : okO [] (cM (bM L xs) []) := ⟨fun a n h => by simp at h, fun a n h => by simp at h⟩
  refine c_new (C := RX8) (T := TX8) (N := 17) (own := xcn 10) hx hb htx hst hDy0 hO0 (fun j => bM_0 0 j) hA hown (ci := 8) rfl w_l1 w_in8 w_n1 (by decide) (by decide) dl_0 (def_ok (ci := 8) rfl) (fun q1 H1 hDy1 hO1 => ?_)
  have hDy1 : xDyn [(13, 8)] (gx G 0 q1) cA D (fun q : Nat => s.heap.size ≤ q) L xs s.heap (cM (bM L xs) []) H1 [] := hDy1
  have hO1 : okO [(13, 8)] (cM (bM L xs) []) := hO1
  have hst1 : xStat (gx G 0 q1) cA D (fun q : Nat => s.heap.size ≤ q) L xs s := xStat_g rfl hst
  have hLR1 : LR (gx G 0 q1) ls [xX, xU, xU, xU] := LR_gen (fun v hv => by
    simp only [List.mem_cons, List.not_mem_nil, or_false] at hv
    rcases hv with rfl | rfl | rfl | rfl
    · exact Or.inr rfl
    · exact Or.inl rfl
    · exact Or.inl rfl
    · exact Or.inl rfl) hLR
  have eq1 : (gx G 0 q1).1 0 = q1 := gx_at
  refine lv_dup hx hb dl_3 rfl ?_
  -- the class is made
  have hrs : rsR = (kR 8, rsR.2.1, [], rsR.2.2.2.1, rsR.2.2.2.2.1, rsR.2.2.2.2.2.1, rsR.2.2.2.2.2.2) := by
    rw [← r1, ← r2]
  obtain ⟨-, -, -, -, hs1⟩ := c_sound (N0 := s.heap.size) (bM_0 (Ls := L) (xs := xs)) hA (hTF cA D _) _ _ _ _ _ _ _ _ _ _ _ _ rs_eq
  rw [hrs] at hs1
  have hMet1 := k_met (N0 := s.heap.size) (z := 0) (a := 0) (G := gx G 0 q1) (SH2 := rsSH) (Qm := fun N => N = cM (bM L xs) rsP ∧ okO rsSH (cM (bM L xs) rsP)) kt8 (kok_at kt8) hA (by decide) hs1 hDy1.2.1 hDy1.2.2.2.1 hO1 (fun _ h => by cases h) hDy1.2.2.2.2 (fun G2 p e R s m below meth c Qf H locs ls _ _ _ hg2 hin2 kk2 => kk2 G2 _ H locs ls hg2 ⟨rfl, hin2.2.1⟩ hin2.1)
  rw [eq1] at hMet1
  refine k_inv (own := 10) kt8 (kok_at kt8) hMet1 hx hb hml hown htx hst1 hax (Nat.le_refl _) hDy1 lk_1 (by decide) (by decide) (by show 0 + 1 + _ ≤ 600000; omega) (by show 0 + 17 + _ ≤ 7302250; omega) hLR1.1 (show 1 ≤ 8 by decide) dl_4 (fun G2 N H2 locs2 hg2 hN2 hDy2 => ?_)
  obtain ⟨hN2, hO2⟩ := hN2
  rw [hN2] at hDy2
  obtain ⟨t1, t2⟩ := tabB_ok (bM_0 (Ls := L) (xs := xs)) r5
  obtain ⟨hDy3, hO3⟩ := c_doneT hDy2 hO2 t1 t2
  have hDy3 : xDyn (rsSH.set 17 (6, 10)) G2 cA D (fun q : Nat => s.heap.size ≤ q) L xs s.heap (cM (bM L xs) ((2, 17, 0, 0) :: rsP)) H2 locs2 := hDy3
  obtain ⟨t3, t4⟩ := tabB_ok (bM_0 (Ls := L) (xs := xs)) r6
  obtain ⟨hDy4, hO4⟩ := c_doneT hDy3 hO3 t3 t4
  have hDy4 : xDyn ((rsSH.set 17 (6, 10)).set 18 (6, 2)) G2 cA D (fun q : Nat => s.heap.size ≤ q) L xs s.heap (cM (bM L xs) mP0) H2 locs2 := hDy4
  obtain ⟨hDy5, hO5⟩ := cDone_ok (bM_0 (Ls := L) (xs := xs)) 0 hDy4 hO4
  have hDy5 : xDyn mSH0 G2 cA D (fun q : Nat => s.heap.size ≤ q) L xs s.heap (cM (bM L xs) mP0) H2 locs2 := hDy5
  have hO5 : okO mSH0 (cM (bM L xs) mP0) := hO5
  have hst2 : xStat G2 cA D (fun q : Nat => s.heap.size ≤ q) L xs s := xStat_g hg2.1 hst1
  have hLR2 : LR G2 ls [xX, xU, xU, xU] := LR_gen (fun v hv => by
    simp only [List.mem_cons, List.not_mem_nil, or_false] at hv
    rcases hv with rfl | rfl | rfl | rfl
    · exact Or.inr (congrArg (fun z : Nat × Nat => Value.ref z.2) hg2.1)
    · exact Or.inl rfl
    · exact Or.inl rfl
    · exact Or.inl rfl) hLR1
  have eq2 : q1 = G2.1 0 := by rw [hg2.2 0 (by decide), eq1]
  rw [eq2]
  refine lv_astore_n hx hb dl_7 rfl (LR_has hLR2) (by decide) rfl (fun ls3 hl3 => ?_)
  have hLR3 : LR G2 ls3 [xX, xO 8 0, xU, xU] := LR_st1 (L := [xX, xU, xU, xU]) (i := 1) (v := xO 8 0) hl3
  have hpl : ∀ q ∈ mP0, q.2.1 < mSH0.length := by
    intro q hq
    have h1 : q.2.1 < 198 := Nat.le_of_ble_eq_true (List.all_eq_true.mp r8 q hq)
    rw [r7]
    exact h1
  refine c_new (C := RX9) (T := TX9) (N := 52) (own := xcn 10) hx hb htx hst2 hDy5 hO5 (fun j => by rw [rd_ok bM_0]; exact rd_out hpl (Nat.le_refl _)) hA hown (ci := 9) rfl w_l2 w_in9 w_n2 (by show 0 + 1 + _ + 1 ≤ 600000; omega) (by show 0 + 17 + _ + 52 ≤ 7302250; omega) dl_8 (def_ok (ci := 9) rfl) (fun q6 H6 hDy6 hO6 => ?_)
  rw [r7] at hDy6
  have hst6 : xStat (gx G2 198 q6) cA D (fun q : Nat => s.heap.size ≤ q) L xs s := xStat_g rfl hst2
  have hLR6 : LR (gx G2 198 q6) ls3 [xX, xO 8 0, xU, xU] := LR_gen (fun v hv => by
    simp only [List.mem_cons, List.not_mem_nil, or_false] at hv
    rcases hv with rfl | rfl | rfl | rfl
    · exact Or.inr rfl
    · exact Or.inr (congrArg Value.ref (gx_lt (by decide)))
    · exact Or.inl rfl
    · exact Or.inl rfl) hLR3
  have eq6 : (gx G2 198 q6).1 198 = q6 := gx_at
  refine lv_dup hx hb dl_11 rfl ?_
  have hMet2 := mo_met (N0 := s.heap.size) (G := gx G2 198 q6) (Init := Init) hA (hTF cA D _) (fun G => hT1 G cA D _) hDy6.2.1 hDy6.2.2.2.1 hO6 hDy6.2.2.2.2
  rw [eq6] at hMet2
  refine k_inv (own := 10) kt9 (kok_at kt9) hMet2 hx hb hml hown htx hst6 hax (Nat.le_refl _) hDy6 lk_2 (by decide) (by decide) (by show 0 + 1 + _ + 1 + _ ≤ 600000; omega) (by show 0 + 17 + _ + 52 + _ ≤ 7302250; omega) hLR6.1 (show 1 ≤ 8 by decide) dl_12 (fun G7 N H7 locs7 hg7 hN7 hDy7 => ?_)
  have hLR7 : LR G7 ls3 [xX, xO 8 0, xU, xU] := LR_gen (fun v hv => by
    simp only [List.mem_cons, List.not_mem_nil, or_false] at hv
    rcases hv with rfl | rfl | rfl | rfl
    · exact Or.inr (congrArg (fun z : Nat × Nat => Value.ref z.2) hg7.1)
    · exact Or.inr (congrArg Value.ref (hg7.2 0 (by decide)))
    · exact Or.inl rfl
    · exact Or.inl rfl) hLR6
  have eq7 : q6 = G7.1 198 := by rw [hg7.2 198 (by decide), eq6]
  rw [eq7]
  refine lv_astore_n hx hb dl_15 rfl (LR_has hLR7) (by decide) rfl (fun ls8 hl8 => ?_)
  have hLR8 : LR G7 ls8 [xX, xO 8 0, xO 9 198, xU] := LR_st1 (L := [xX, xO 8 0, xU, xU]) (i := 2) (v := xO 9 198) hl8
  have hst7 : xStat G7 cA D (fun q : Nat => s.heap.size ≤ q) L xs s := xStat_g hg7.1 hst6
  refine hLaw G7 cA D (fun q : Nat => s.heap.size ≤ q) N hN7 _ p e room_1 s m #[Value.ref b] below meth c _ _ Qf ⟨lw_mts, hx, hb, hml, hown, htx, hst7, by decide, by decide, ?_, ?_⟩ ?_ H7 locs7 ls8 hDy7 hLR8 rfl ?_ (fun _ h => by cases h)
  · show 0 + 1 + _ + 1 + _ ≤ 600000; omega
  · show 0 + 17 + _ + 52 + _ ≤ 7302250; omega
  · intro v N9 H9 locs9 pc9 ls9 ins9 hv hok hdy9 hd9 hret9
    subst hv
    obtain ⟨rfl, -⟩ := hret9
    have hd9 : decode code pc9 = .ok (.ireturn, 1) := hd9
    refine va_forget (fun q hq => hdy9.2.2.1.2.2 q hq) (W.widen (k := 600000) (n := 7302250) ?_ ?_ (hRet H9 pc9 ls9 hd9))
    · show 0 + 1 + _ + 1 + _ ≤ 600000; omega
    · show 0 + 17 + _ + 52 + _ ≤ 7302250; omega
  · intro v hv
    simp only [List.mem_cons, List.not_mem_nil, or_false] at hv
    rcases hv with rfl | rfl | rfl | rfl
    · trivial
    · exact ⟨by decide, rfl⟩
    · exact ⟨by decide, rfl⟩
    · trivial

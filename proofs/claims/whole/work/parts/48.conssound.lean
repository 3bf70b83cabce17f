/-! CONSTRUCTION'S RUN is sound. -/
theorem kck {k : Nat} {q : MethodName × Nat × Nat × Nat × Nat} {e : xE} (hq : kts[k]? = some q) (he : e ∈ kC k) : kchkI k q.2.1 e = true ∧ decode (xbyt q.2.2.1) e.1 = .ok (e.2.1, e.2.2.1) := by
  have h := List.all_eq_true.mp kchk_all k (List.mem_range.mpr (lt_of_at hq))
  obtain ⟨y, ml, pc, pi, pk⟩ := q
  unfold kchk at h
  rw [hq] at h
  have h1 := List.all_eq_true.mp h e he
  rw [Bool.and_eq_true] at h1
  exact ⟨h1.1, of_decide_eq_true h1.2⟩
theorem kok_at {k : Nat} {q : MethodName × Nat × Nat × Nat × Nat} (hq : kts[k]? = some q) : kokB k = true := List.all_eq_true.mp kok_all k (List.mem_range.mpr (lt_of_at hq))
theorem nin_i {x : Int} (h : nin x = true) : 0 ≤ x ∧ x < 200000 := by
  unfold nin at h
  simp only [Bool.and_eq_true, decide_eq_true_eq] at h
  exact h
theorem nin_n {x : Int} (h : 0 ≤ x ∧ x < 200000) : ¬ Int32.ofInt x < 0 ∧ (Int32.ofInt x).toNatClampNeg = x.toNat := by
  have h1 : i32 x := ⟨by omega, by omega⟩
  refine ⟨fun q => ?_, n32 h.1 h1⟩
  have := (l32 h1 (show i32 0 from ⟨by decide, by decide⟩)).mp q
  omega
theorem cVc {n : Nat} {v : xV} {S : List xV} (hv : cV n v) (hS : ∀ w ∈ S, cV n w) : ∀ w ∈ v :: S, cV n w := by
  intro w hw
  rcases List.mem_cons.mp hw with q | q
  · rw [q]; exact hv
  · exact hS w q
theorem cVt {n : Nat} {v : xV} {S : List xV} (hS : ∀ w ∈ v :: S, cV n w) : cV n v ∧ ∀ w ∈ S, cV n w := ⟨hS v List.mem_cons_self, fun w h => hS w (List.mem_cons_of_mem _ h)⟩
theorem cVls {n n2 : Nat} {S : List xV} (hS : ∀ w ∈ S, cV n w) (h : n ≤ n2) : ∀ w ∈ S, cV n2 w := fun w hw => cV_le (hS w hw) h
theorem cVLs {n n2 : Nat} {L : List xV} (hS : ∀ w ∈ L, w.1 = 9 ∨ cV n w) (h : n ≤ n2) : ∀ w ∈ L, w.1 = 9 ∨ cV n2 w := fun w hw => (hS w hw).imp id (fun q => cV_le q h)
theorem cV_get {n i : Nat} {L : List xV} (hL : ∀ w ∈ L, w.1 = 9 ∨ cV n w) (h9 : ¬ (L.getD i xU).1 = 9) : L[i]? = some (L.getD i xU) ∧ cV n (L.getD i xU) := by
  have h1 := getD_at (L := L) (i := i) rfl h9
  refine ⟨h1, ?_⟩
  rcases hL _ (List.mem_of_getElem? h1) with q | q
  · exact absurd q h9
  · exact q
theorem cV_st1 {n i : Nat} {L : List xV} {v : xV} (hL : ∀ w ∈ L, w.1 = 9 ∨ cV n w) (hv : cV n v) : ∀ w ∈ st1 L i v, w.1 = 9 ∨ cV n w := by
  intro w hw
  unfold st1 at hw
  rcases List.mem_or_eq_of_mem_set hw with q | q
  · cases i with
    | zero => exact hL w q
    | succ j =>
      rcases List.mem_or_eq_of_mem_set (show w ∈ L.set j (cutv (L.getD j xU)) from q) with q | q
      · exact hL w q
      · by_cases h9 : (L.getD j xU).1 = 9
        · subst q
          left
          unfold cutv
          split
          · rfl
          · exact h9
        · have h2 := cV_get hL h9
          subst q
          unfold cutv
          rw [cV_1 h2.2]
          exact Or.inr h2.2
  · subst q; exact Or.inr hv
theorem not9 {v : xV} {t : Nat} (h : Nat.beq v.1 t = true) (ht : ¬ t = 9) : ¬ v.1 = 9 := by
  rw [Nat.eq_of_beq_eq_true h]
  exact ht
theorem refT_ok {ty : FieldType} (h : refT ty = true) : (∀ q, narrow ty (.ref q) = .ref q) ∧ (∀ q, fits ty (.ref q) = true) ∧ defaultValue ty = .null := by
  cases ty <;> first | (cases h; done) | exact ⟨fun _ => rfl, fun _ => rfl, rfl⟩
theorem rf_at {ci k : Nat} {C : String} {T : u_T} {N : Nat} (hc : xcl[ci]? = some (C, T, N)) (hk : k < N) {ty : FieldType} (hty : parseFieldDescriptor (T k).2.2.1 = some ty) (h2 : 2 ≤ (xfld ci k).1) : refT ty = true := by
  have hn := (xcl_ok _ _ hc).1
  dsimp only at hn
  have h1 := List.all_eq_true.mp (List.all_eq_true.mp rf_all ci (List.mem_range.mpr (lt_of_at hc))) k (List.mem_range.mpr (by rw [hn]; exact hk))
  unfold rfB at h1
  rw [hc] at h1
  dsimp only at h1
  rw [hty] at h1
  dsimp only at h1
  revert h1 h2
  cases xfld ci k with
  | mk kd r =>
    match kd with
    | 0 => exact fun h2 _ => absurd h2 (by simp)
    | 1 => exact fun h2 _ => absurd h2 (by simp)
    | kd + 2 => exact fun _ h1 => h1
theorem def_ok {ci : Nat} {C : String} {T : u_T} {N : Nat} (hc : xcl[ci]? = some (C, T, N)) (ty : Nat → FieldType) (hty : ∀ k, k < N → parseFieldDescriptor (T k).2.2.1 = some (ty k)) (j : Nat) (hj : j < N) : defaultValue (ty j) = (match (xfld ci j).1 with
      | 0 => Value.int 0
      | 1 => Value.long 0
      | _ => Value.null) := by
  obtain ⟨-, -, -, ty0, hty0, hkt, -⟩ := xcl_ok _ _ hc
  have e : ty0 j = ty j := Option.some.inj ((hty0 j hj).symm.trans (hty j hj))
  have h1 := hkt j hj
  rw [e] at h1
  have h2 := rf_at hc hj (hty j hj)
  revert h1 h2
  cases xfld ci j with
  | mk kd r =>
    match kd with
    | 0 =>
      intro h1 _
      simp only [ktB, Bool.or_eq_true, Bool.and_eq_true, decide_eq_true_eq] at h1
      rcases h1 with ⟨-, h1⟩ | ⟨-, h1⟩ <;> rw [h1] <;> rfl
    | 1 =>
      intro h1 _
      simp only [ktB, decide_eq_true_eq] at h1
      rw [h1]
      rfl
    | kd + 2 => exact fun _ h2 => (refT_ok (h2 (by show 2 ≤ kd + 2; omega))).2.2
theorem okO_up {SH : xSH} {M : xM} {a t n : Nat} {i v : Int} (h : okO SH M) (ha : SH[a]? = some (t, n)) (ht : t = 2 ∨ t = 3) : okO SH (up M a i v) := by
  refine ⟨fun b n2 hb j => ?_, fun b n2 hb j => ?_⟩
  · have e : ¬ b = a := fun q => by
      rw [q, ha] at hb
      rcases hb with hb | hb <;> cases hb <;> rcases ht with ht | ht <;> cases ht
    rw [up_ne (nat_cast_ne e)]
    exact h.1 b n2 hb j
  · have e : ¬ b = a := fun q => by
      rw [q, ha] at hb
      rcases hb with hb | hb <;> cases hb <;> rcases ht with ht | ht <;> cases ht
    rw [up_ne (nat_cast_ne e)]
    exact h.2 b n2 hb j
theorem cP_app {P : List cO} {n n2 : Nat} (h : ∀ q ∈ P, q.2.1 < n) (hn : n ≤ n2) : ∀ q ∈ P, q.2.1 < n2 := fun q hq => Nat.lt_of_lt_of_le (h q hq) hn
theorem cP_cons {P : List cO} {n : Nat} {r : cO} (h : ∀ q ∈ P, q.2.1 < n) (hr : r.2.1 < n) : ∀ q ∈ r :: P, q.2.1 < n := by
  intro q hq
  rcases List.mem_cons.mp hq with e | e
  · rw [e]; exact hr
  · exact h q e
theorem tf_ok {B : xM} {SH : xSH} {P : List cO} {t : Nat} (h : okO SH (cM B P)) (h1 : SH[t]? = some (2, 6)) (h2 : SH[t + 6]? = some (3, 16)) : okO SH (cM B (tfO t ++ P)) := by
  refine okO_up (okO_up (okO_up (okO_up (okO_up (okO_up (okO_up (okO_up (okO_up h h1 (Or.inl rfl)) h2 (Or.inr rfl)) h2 (Or.inr rfl)) h2 (Or.inr rfl)) h2 (Or.inr rfl)) h2 (Or.inr rfl)) h2 (Or.inr rfl)) h2 (Or.inr rfl)) h2 (Or.inr rfl)
theorem tf_pl {SH : xSH} {P : List cO} {t : Nat} (h : ∀ q ∈ P, q.2.1 < SH.length) (h1 : (cDone SH P t)[t]? = some (2, 6)) (h2 : (cDone SH P t)[t + 6]? = some (3, 16)) : ∀ q ∈ tfO t ++ P, q.2.1 < (cDone SH P t).length := by
  have l1 := lt_of_at h1
  have l2 := lt_of_at h2
  have h : ∀ q ∈ P, q.2.1 < (cDone SH P t).length := by rw [cDone_len]; exact h
  exact cP_cons (cP_cons (cP_cons (cP_cons (cP_cons (cP_cons (cP_cons (cP_cons (cP_cons h l1) l2) l2) l2) l2) l2) l2) l2) l2
/-- what is asked of the method that takes the first strides -/
def kTF (cA : Nat → ClassId) (D : va_G) (A : Nat → Prop) (Ls : Nat) (xs : Nat → Int32) (l : Launch) : Prop := ∀ (SH : xSH) (G : xG) (d t : Nat) (B : xM) (P : List cO), xSim SH G cA D A Ls xs l d kTable_takeFirstStrides 0 [xO 6 (t : Int), xU] [] (cM B P) (fun r N => r = xU ∧ N = cM B (tfO t ++ P))
set_option maxRecDepth 100000 in
theorem tf_mts : mts[kTable_takeFirstStrides]? = some (6, 0, ⟨"RouteStrides$Table", "takeFirstStrides", "()V"⟩, 2, none, 184, 131, 183, 0, 0) := by rfl
/-- a void method is called on an object that stands -/
theorem k_virt {p : Program} {l : Launch} {e : Env} {R : Room} {s : State} {m : MethodId} {args : Array Value} {below : List Frame} {meth : Method} {c : Code} {H : Heap} {locs : List Loc} {cells slots : Nat} {Q : State → Prop} {pc : Nat} {ls : Array Slot} {rest : List Value} {SH : xSH} {G : xG} {cA : Nat → ClassId} {D : va_G} {A : Nat → Prop} {Ls : Nat} {xs : Nat → Int32} {M : xM}
    {own idx k1 pos d1 ml0 b ow maxL pcw pi pk ps np : Nat} {y : MethodName} {As : List xV} {Qx : xQ} {cc : ByteArray} (ht1 : mts[k1]? = some (ow, 0, y, maxL, none, pcw, pi, pk, ps, np)) (hnl : k1 ≠ kLaw_law) (h : xSim SH G cA D A Ls xs l d1 k1 0 (lay (xO ow (b : Int) :: As) maxL) [] M Qx) (hn3 : (lay1 (xO ow (b : Int) :: As)).length ≤ maxL) (hAs : ∀ v ∈ As, okV SH v) (hnA : As.length = np)
    (hx : p.tables.exec = Jvm.exec) (hb : c.code = cc) (hml : c.maxLocals = ml0) (hown : s.vm.findClass (xcn own) = some m.cls) (hts : ∀ w ∈ xTT, w.before args s = true) (hst : xStat G cA D A Ls xs s) (hDy : xDyn SH G cA D A Ls xs s.heap M H locs) (hsh : SH[b]? = some (2, ow)) (hlk : xmok (own, idx, k1, 0, pos) = true)
    (hf : d1 + 1 + 8 ≤ R.frames) (hl : 60 * (d1 + 1) + 200 ≤ R.locals) (hc : cells ≤ R.cells) (hsl : slots ≤ R.slots) (hls : ls.size = ml0) (hw : (rest.map fun v => v.category).sum ≤ 8) (hd : decode cc pc = .ok (.invokevirtual idx, 3))
    (kk : ∀ (r : xV) (N : xM) (H1 : Heap) (locs1 : List Loc), Qx r N → xDyn SH G cA D A Ls xs s.heap N H1 locs1 → W p l e R s m args below meth c H1 locs1 cells slots Q (F0 m (pc + 3) ls rest)) : W p l e R s m args below meth c H locs cells slots Q (F0 m pc ls ((As.map (mkV G)).reverse ++ .ref (G.1 b) :: rest)) := by
  have htok := mts_tok ht1 hnl
  have hcm := code_mem htok
  have htk := htok
  simp only [xtok, Bool.and_eq_true, decide_eq_true_eq] at htk
  obtain ⟨hcn, -, hini, hkind, hpl, hny1, hny2, hnp⟩ := htk
  have hmx : maxL ≤ 40 := Nat.le_of_ble_eq_true (List.all_eq_true.mp mts_max _ (List.mem_of_getElem? ht1))
  have hoks : ∀ v ∈ xO ow (b : Int) :: As, okV SH v := okc (v := xO ow (b : Int)) ⟨by show (0 : Int) ≤ (b : Int); omega, hsh⟩ hAs
  have hMet := x_met (l := l) ht1 hnl htok hn3 hoks hDy.2.1 hDy.2.2.2.1 hDy.2.2.2.2 h
  have hG : GoodIn xTT (Cond.code y (xbyt pcw) maxL none :: xTT) := fun w hw => by
    rcases List.mem_cons.mp hw with e | e
    · rw [e]; exact tt_good _ hcm
    · exact tt_good w e
  have hbl : FrameBlind (va_Pc ((xO ow (b : Int) :: As).map (mkV G)) (fun U => xStat G cA D A Ls xs U ∧ va_P D xcl (xW SH G cA M) U.heap)) := fun a U g mk q => ⟨q.1, xStat_same rfl rfl q.2.1, q.2.2⟩
  have hpre : ∀ U : State, U.heap = H → s.WarmedH U.vm → (fun U => xStat G cA D A Ls xs U ∧ va_P D xcl (xW SH G cA M) U.heap) U := fun U hU hW => ⟨xStat_warm hW hU hDy.2.2.1 hst, by show va_P D xcl _ U.heap; rw [hU]; exact hDy.1⟩
  have hroom : d1 + 8 + 1 ≤ R.frames ∧ 8 + (maxL + 11) + (60 * d1 + 200) ≤ R.locals := ⟨by omega, by omega⟩
  have hwid : 2 * (F0 m pc ls ((As.map (mkV G)).reverse ++ .ref (G.1 b) :: rest)).monitorRoom + (rest.map fun v => v.category).sum ≤ 8 := by
    show 2 * 0 + _ ≤ 8
    omega
  simp only [xmok, ht1, decide_eq_true_eq] at hlk
  obtain ⟨rc, hrc1, -⟩ := hDy.1 b _ (xW_at hsh)
  obtain ⟨-, -, hcn2, -⟩ := xcl_ok _ _ hrc1
  have hcell := va_recv hst.1 hDy.1 hrc1 (xW_at hsh)
  have hCB : CallB R s args (xcn own) idx y (xbyt pcw) maxL none (Cond.code y (xbyt pcw) maxL none :: xTT) { frames := d1 + 8, cells := 0, slots := 0, locals := 60 * d1 + 200 } 0 0 np := callB_of np hts hG rfl rfl rfl (hts _ (tt_mem hini rfl)) (hts _ (tt_mem hlk rfl)) ⟨hny1, hny2, hnp⟩ hroom
  refine x_back (va_runV (As := As.map (mkV G)) (rest := rest) (C := y.cls) (b := G.1 b) ⟨hx, hb, hml, hown, hts⟩ hMet ⟨hCB, hts _ (tt_mem hkind.1 rfl), hts _ (tt_mem hkind.2 rfl)⟩ ⟨hbl, by rw [← hcn, hcn2]; exact hcell, fun U hU hW => ⟨rfl, hpre U hU hW⟩⟩ rfl (by rw [List.length_map]; exact hnA) hls rfl hwid hd ⟨hc, hsl⟩) hDy.2.2.1 (fun r N H1 locs1 hq hr hk2 hdy1 => ?_)
  have e9 : (xov G r).toList ++ rest = rest := by
    obtain ⟨tg, n, x⟩ := r
    unfold xRk at hk2
    dsimp only at hk2
    split at hk2
    · rcases hk2 with hk2 | hk2 <;> cases hk2
    · cases hk2
    · rfl
    · exact hk2.elim
  rw [e9]
  exact kk r N H1 locs1 hq hdy1
set_option maxHeartbeats 4000000 in
set_option maxRecDepth 20000 in
theorem c_sound {cA : Nat → ClassId} {D : va_G} {A : Nat → Prop} {Ls : Nat} {xs : Nat → Int32} {l : Launch} {N0 : Nat} {B : xM} (hB : ∀ b j : Nat, B b j = 0) (hA : ∀ q, N0 ≤ q → A q) (hTF : kTF cA D A Ls xs l) :
    ∀ (f d k stop pc : Nat) (L S : List xV) (SH : xSH) (P : List cO) (cl sl : Nat) (res : cS), cRun f d k stop (pc, L, S, SH, P, cl, sl) = some res → res.1 = stop ∧ SH.length ≤ res.2.2.2.1.length ∧ cl ≤ res.2.2.2.2.2.1 ∧ sl ≤ res.2.2.2.2.2.2 ∧ cOK cA D A Ls xs l N0 B d k (pc, L, S, SH, P, cl, sl) res := by
  intro f
  induction f with
  | zero => intro d k stop pc L S SH P cl sl res h; cases h
  | succ f ih =>
    intro d k stop pc L S SH P cl sl res h
    rw [cRun] at h
    cases hs : Nat.beq pc stop with
    | true =>
      rw [hs] at h
      cases h
      exact ⟨Nat.eq_of_beq_eq_true hs, Nat.le_refl _, Nat.le_refl _, Nat.le_refl _, fun G p e R s m args below meth c Qf H locs ls _ hin _ _ kk => kk G H locs ls cAg_rf hin⟩
    | false =>
      rw [hs] at h
      cases he : (kC k).find? (fun e => Nat.beq e.1 pc) with
      | none => rw [he] at h; cases h
      | some e0 =>
        rw [he] at h
        have hmem := List.mem_of_find?_eq_some he
        have hpc : e0.1 = pc := Nat.eq_of_beq_eq_true (show Nat.beq e0.1 pc = true from List.find?_some (p := fun e : xE => Nat.beq e.1 pc) he)
        obtain ⟨pc0, ins, len, a1, a2, a3, a4, c0, ts⟩ := e0
        have hpc : pc0 = pc := hpc
        subst hpc
        cases ins <;> try (cases h; done)
        case iconst n =>
          obtain ⟨g0, g1, g2, g3, go⟩ := ih _ _ _ _ _ _ _ _ _ _ _ h
          refine ⟨g0, g1, g2, g3, ?_⟩
          intro G p e R s m args below meth c Qf H locs ls hcx hin hrc hrs kk
          show W p l e R s m args below meth c H locs cl sl Qf (F0 m pc0 ls (List.map (mkV G) _))
          obtain ⟨q, hq, hx, hb, hml, hown, hts, hst, hrf, hrl, hnm, hax, hN⟩ := id hcx
          obtain ⟨hDy, hO, hPl, hL, hlen, hLo, hSo⟩ := hin
          obtain ⟨hI, hd⟩ := kck hq hmem
          have hd : decode (xbyt q.2.2.1) pc0 = .ok (_, len) := hd
          simp only [kchkI, Bool.and_eq_true, decide_eq_true_eq] at hI
          obtain ⟨h1, h2, h3⟩ := hI
          cases Nat.eq_of_beq_eq_true h1
          subst h2
          exact lv_iconst hx hb hd rfl (go G p e R s m args below meth c Qf H locs ls hcx ⟨hDy, hO, hPl, hL, hlen, hLo, cVc (v := xI _) (r32_i h3) hSo⟩ hrc hrs kk)
        case bipush n =>
          obtain ⟨g0, g1, g2, g3, go⟩ := ih _ _ _ _ _ _ _ _ _ _ _ h
          refine ⟨g0, g1, g2, g3, ?_⟩
          intro G p e R s m args below meth c Qf H locs ls hcx hin hrc hrs kk
          show W p l e R s m args below meth c H locs cl sl Qf (F0 m pc0 ls (List.map (mkV G) _))
          obtain ⟨q, hq, hx, hb, hml, hown, hts, hst, hrf, hrl, hnm, hax, hN⟩ := id hcx
          obtain ⟨hDy, hO, hPl, hL, hlen, hLo, hSo⟩ := hin
          obtain ⟨hI, hd⟩ := kck hq hmem
          have hd : decode (xbyt q.2.2.1) pc0 = .ok (_, len) := hd
          simp only [kchkI, Bool.and_eq_true, decide_eq_true_eq] at hI
          obtain ⟨h1, h2, h3⟩ := hI
          cases Nat.eq_of_beq_eq_true h1
          exact lv_bipush hx hb hd h2 (go G p e R s m args below meth c Qf H locs ls hcx ⟨hDy, hO, hPl, hL, hlen, hLo, cVc (v := xI _) (r32_i h3) hSo⟩ hrc hrs kk)
        case sipush n =>
          obtain ⟨g0, g1, g2, g3, go⟩ := ih _ _ _ _ _ _ _ _ _ _ _ h
          refine ⟨g0, g1, g2, g3, ?_⟩
          intro G p e R s m args below meth c Qf H locs ls hcx hin hrc hrs kk
          show W p l e R s m args below meth c H locs cl sl Qf (F0 m pc0 ls (List.map (mkV G) _))
          obtain ⟨q, hq, hx, hb, hml, hown, hts, hst, hrf, hrl, hnm, hax, hN⟩ := id hcx
          obtain ⟨hDy, hO, hPl, hL, hlen, hLo, hSo⟩ := hin
          obtain ⟨hI, hd⟩ := kck hq hmem
          have hd : decode (xbyt q.2.2.1) pc0 = .ok (_, len) := hd
          simp only [kchkI, Bool.and_eq_true, decide_eq_true_eq] at hI
          obtain ⟨h1, h2, h3⟩ := hI
          cases Nat.eq_of_beq_eq_true h1
          exact lv_sipush hx hb hd h2 (go G p e R s m args below meth c Qf H locs ls hcx ⟨hDy, hO, hPl, hL, hlen, hLo, cVc (v := xI _) (r32_i h3) hSo⟩ hrc hrs kk)
        case ldc idx =>
          obtain ⟨g0, g1, g2, g3, go⟩ := ih _ _ _ _ _ _ _ _ _ _ _ h
          refine ⟨g0, g1, g2, g3, ?_⟩
          intro G p e R s m args below meth c Qf H locs ls hcx hin hrc hrs kk
          show W p l e R s m args below meth c H locs cl sl Qf (F0 m pc0 ls (List.map (mkV G) _))
          obtain ⟨q, hq, hx, hb, hml, hown, hts, hst, hrf, hrl, hnm, hax, hN⟩ := id hcx
          obtain ⟨hDy, hO, hPl, hL, hlen, hLo, hSo⟩ := hin
          obtain ⟨hI, hd⟩ := kck hq hmem
          have hd : decode (xbyt q.2.2.1) pc0 = .ok (_, len) := hd
          simp only [kchkI, Bool.and_eq_true, decide_eq_true_eq] at hI
          obtain ⟨h1, h3, h2⟩ := hI
          cases Nat.eq_of_beq_eq_true h1
          exact lv_ldc hx hb hown (hts _ (tt_mem h2 rfl)) hd (go G p e R s m args below meth c Qf H locs ls hcx ⟨hDy, hO, hPl, hL, hlen, hLo, cVc (v := xI _) (r32_i h3) hSo⟩ hrc hrs kk)
        case ldc_w idx =>
          obtain ⟨g0, g1, g2, g3, go⟩ := ih _ _ _ _ _ _ _ _ _ _ _ h
          refine ⟨g0, g1, g2, g3, ?_⟩
          intro G p e R s m args below meth c Qf H locs ls hcx hin hrc hrs kk
          show W p l e R s m args below meth c H locs cl sl Qf (F0 m pc0 ls (List.map (mkV G) _))
          obtain ⟨q, hq, hx, hb, hml, hown, hts, hst, hrf, hrl, hnm, hax, hN⟩ := id hcx
          obtain ⟨hDy, hO, hPl, hL, hlen, hLo, hSo⟩ := hin
          obtain ⟨hI, hd⟩ := kck hq hmem
          have hd : decode (xbyt q.2.2.1) pc0 = .ok (_, len) := hd
          simp only [kchkI, Bool.and_eq_true, decide_eq_true_eq] at hI
          obtain ⟨h1, h3, h2⟩ := hI
          cases Nat.eq_of_beq_eq_true h1
          exact lv_ldcw hx hb hown (hts _ (tt_mem h2 rfl)) hd (go G p e R s m args below meth c Qf H locs ls hcx ⟨hDy, hO, hPl, hL, hlen, hLo, cVc (v := xI _) (r32_i h3) hSo⟩ hrc hrs kk)
        case aload_n n =>
          cases hc : Nat.beq (L.getD a1 xU).1 15 with
          | false => simp only [hc] at h; cases h
          | true =>
            simp only [hc] at h
            obtain ⟨g0, g1, g2, g3, go⟩ := ih _ _ _ _ _ _ _ _ _ _ _ h
            refine ⟨g0, g1, g2, g3, ?_⟩
            intro G p e R s m args below meth c Qf H locs ls hcx hin hrc hrs kk
            show W p l e R s m args below meth c H locs cl sl Qf (F0 m pc0 ls (List.map (mkV G) _))
            obtain ⟨q, hq, hx, hb, hml, hown, hts, hst, hrf, hrl, hnm, hax, hN⟩ := id hcx
            obtain ⟨hDy, hO, hPl, hL, hlen, hLo, hSo⟩ := hin
            obtain ⟨hI, hd⟩ := kck hq hmem
            have hd : decode (xbyt q.2.2.1) pc0 = .ok (_, len) := hd
            simp only [kchkI, Bool.and_eq_true, decide_eq_true_eq] at hI
            obtain ⟨h1, h2⟩ := hI
            cases Nat.eq_of_beq_eq_true h1
            obtain ⟨hat, hv⟩ := cV_get hLo (not9 hc (by decide))
            obtain ⟨z, a, ev, ha⟩ := cV_r hv hc
            have hl := hL.2.2 _ _ hat (not9 hc (by decide))
            have hg := go G p e R s m args below meth c Qf H locs ls hcx ⟨hDy, hO, hPl, hL, hlen, hLo, cVc hv hSo⟩ hrc hrs kk
            rw [ev] at hl
            have hg : W p l e R s m args below meth c H locs cl sl Qf (F0 m (pc0 + 1) ls ((L.getD a1 xU :: S).map (mkV G))) := hg
            rw [List.map_cons, ev] at hg
            exact lv_aload_n hx hb hd h2 hl hg
        case iload_n n =>
          cases hc : Nat.beq (L.getD a1 xU).1 0 with
          | false => simp only [hc] at h; cases h
          | true =>
            simp only [hc] at h
            obtain ⟨g0, g1, g2, g3, go⟩ := ih _ _ _ _ _ _ _ _ _ _ _ h
            refine ⟨g0, g1, g2, g3, ?_⟩
            intro G p e R s m args below meth c Qf H locs ls hcx hin hrc hrs kk
            show W p l e R s m args below meth c H locs cl sl Qf (F0 m pc0 ls (List.map (mkV G) _))
            obtain ⟨q, hq, hx, hb, hml, hown, hts, hst, hrf, hrl, hnm, hax, hN⟩ := id hcx
            obtain ⟨hDy, hO, hPl, hL, hlen, hLo, hSo⟩ := hin
            obtain ⟨hI, hd⟩ := kck hq hmem
            have hd : decode (xbyt q.2.2.1) pc0 = .ok (_, len) := hd
            simp only [kchkI, Bool.and_eq_true, decide_eq_true_eq] at hI
            obtain ⟨h1, h2⟩ := hI
            cases Nat.eq_of_beq_eq_true h1
            obtain ⟨hat, hv⟩ := cV_get hLo (not9 hc (by decide))
            obtain ⟨z, x, ev, ha⟩ := cV_i hv hc
            have hl := hL.2.2 _ _ hat (not9 hc (by decide))
            have hg := go G p e R s m args below meth c Qf H locs ls hcx ⟨hDy, hO, hPl, hL, hlen, hLo, cVc hv hSo⟩ hrc hrs kk
            rw [ev] at hl
            have hg : W p l e R s m args below meth c H locs cl sl Qf (F0 m (pc0 + 1) ls ((L.getD a1 xU :: S).map (mkV G))) := hg
            rw [List.map_cons, ev] at hg
            exact lv_iload_n hx hb hd h2 hl hg
        case istore_n n =>
          cases S with
          | nil => cases h
          | cons v T =>
          cases hc : Nat.beq v.1 0 with
          | false => simp only [hc] at h; cases h
          | true =>
            simp only [hc] at h
            obtain ⟨g0, g1, g2, g3, go⟩ := ih _ _ _ _ _ _ _ _ _ _ _ h
            refine ⟨g0, g1, g2, g3, ?_⟩
            intro G p e R s m args below meth c Qf H locs ls hcx hin hrc hrs kk
            show W p l e R s m args below meth c H locs cl sl Qf (F0 m pc0 ls (List.map (mkV G) _))
            obtain ⟨q, hq, hx, hb, hml, hown, hts, hst, hrf, hrl, hnm, hax, hN⟩ := id hcx
            obtain ⟨hDy, hO, hPl, hL, hlen, hLo, hSo⟩ := hin
            obtain ⟨hI, hd⟩ := kck hq hmem
            have hd : decode (xbyt q.2.2.1) pc0 = .ok (_, len) := hd
            simp only [kchkI, Bool.and_eq_true, decide_eq_true_eq] at hI
            obtain ⟨h1, h2, h3⟩ := hI
            cases Nat.eq_of_beq_eq_true h1
            obtain ⟨hv, hT⟩ := cVt hSo
            obtain ⟨z, x, rfl, hx1⟩ := cV_i hv hc
            have hlt := Nat.le_of_ble_eq_true h3
            refine lv_istore_n hx hb hd h2 (LR_has hL) (by rw [hlen, kL_at hq]; exact hlt) rfl (fun ls' hl' => ?_)
            exact go G p e R s m args below meth c Qf H locs ls' hcx ⟨hDy, hO, hPl, LR_st1 hl', by rw [st1_len]; exact hlen, cV_st1 hLo hv, hT⟩ hrc hrs kk
        case iinc n w =>
          cases hc : Nat.beq (L.getD a1 xU).1 0 with
          | false => simp only [hc] at h; cases h
          | true =>
            simp only [hc] at h
            obtain ⟨g0, g1, g2, g3, go⟩ := ih _ _ _ _ _ _ _ _ _ _ _ h
            refine ⟨g0, g1, g2, g3, ?_⟩
            intro G p e R s m args below meth c Qf H locs ls hcx hin hrc hrs kk
            show W p l e R s m args below meth c H locs cl sl Qf (F0 m pc0 ls (List.map (mkV G) _))
            obtain ⟨q, hq, hx, hb, hml, hown, hts, hst, hrf, hrl, hnm, hax, hN⟩ := id hcx
            obtain ⟨hDy, hO, hPl, hL, hlen, hLo, hSo⟩ := hin
            obtain ⟨hI, hd⟩ := kck hq hmem
            have hd : decode (xbyt q.2.2.1) pc0 = .ok (_, len) := hd
            simp only [kchkI, Bool.and_eq_true, decide_eq_true_eq] at hI
            obtain ⟨h1, h2, h3⟩ := hI
            cases Nat.eq_of_beq_eq_true h1
            cases Nat.eq_of_beq_eq_true h2
            subst h3
            obtain ⟨hat, hv⟩ := cV_get hLo (not9 hc (by decide))
            obtain ⟨z, x, ev, ha⟩ := cV_i hv hc
            have hg := fun (ls' : Array Slot) => go G p e R s m args below meth c Qf H locs ls' hcx
            rw [ev] at hat hg
            obtain ⟨j, hj⟩ := List.mem_iff_getElem?.mp (lvl_mem (G := G) hat (by simp))
            refine lv_iinc hx hb hd (LR_has hL) hj (v := Int32.ofInt (z32 (x + w))) (by rw [o32, Int32.ofInt_add]) (List.getElem?_eq_some_iff.mp hat).1 rfl (fun ls' hl' => ?_)
            exact hg ls' ⟨hDy, hO, hPl, LR_st1 (v := xI (z32 (x + w))) hl', by rw [st1_len]; exact hlen, cV_st1 hLo (i32_z _), hSo⟩ hrc hrs kk
        case dup =>
          cases S with
          | nil => cases h
          | cons v T =>
          obtain ⟨g0, g1, g2, g3, go⟩ := ih _ _ _ _ _ _ _ _ _ _ _ h
          refine ⟨g0, g1, g2, g3, ?_⟩
          intro G p e R s m args below meth c Qf H locs ls hcx hin hrc hrs kk
          show W p l e R s m args below meth c H locs cl sl Qf (F0 m pc0 ls (List.map (mkV G) _))
          obtain ⟨q, hq, hx, hb, hml, hown, hts, hst, hrf, hrl, hnm, hax, hN⟩ := id hcx
          obtain ⟨hDy, hO, hPl, hL, hlen, hLo, hSo⟩ := hin
          obtain ⟨hI, hd⟩ := kck hq hmem
          have hd : decode (xbyt q.2.2.1) pc0 = .ok (_, len) := hd
          cases Nat.eq_of_beq_eq_true hI
          obtain ⟨hv, hT⟩ := cVt hSo
          exact lv_dup hx hb hd (cat1 (by rw [cV_1 hv]; rfl)) (go G p e R s m args below meth c Qf H locs ls hcx ⟨hDy, hO, hPl, hL, hlen, hLo, cVc hv hSo⟩ hrc hrs kk)
        case goto off =>
          obtain ⟨g0, g1, g2, g3, go⟩ := ih _ _ _ _ _ _ _ _ _ _ _ h
          refine ⟨g0, g1, g2, g3, ?_⟩
          intro G p e R s m args below meth c Qf H locs ls hcx hin hrc hrs kk
          show W p l e R s m args below meth c H locs cl sl Qf (F0 m pc0 ls (List.map (mkV G) _))
          obtain ⟨q, hq, hx, hb, hml, hown, hts, hst, hrf, hrl, hnm, hax, hN⟩ := id hcx
          obtain ⟨hDy, hO, hPl, hL, hlen, hLo, hSo⟩ := hin
          obtain ⟨hI, hd⟩ := kck hq hmem
          have hd : decode (xbyt q.2.2.1) pc0 = .ok (_, len) := hd
          simp only [kchkI, Bool.and_eq_true, decide_eq_true_eq] at hI
          obtain ⟨h1, h2⟩ := hI
          cases Nat.eq_of_beq_eq_true h1
          exact lv_goto hx hb hd h2 (go G p e R s m args below meth c Qf H locs ls hcx ⟨hDy, hO, hPl, hL, hlen, hLo, hSo⟩ hrc hrs kk)
        case if_icmp o off =>
          cases S with
          | nil => cases h
          | cons y T =>
          cases T with
          | nil => cases h
          | cons x T =>
          cases hc : (Nat.beq y.1 0 && Nat.beq x.1 0) with
          | false => simp only [hc] at h; cases h
          | true =>
            simp only [hc] at h
            rw [Bool.and_eq_true] at hc
            cases hy : decide (y.2.2 ≤ x.2.2)
            · simp only [hy] at h
              have hy := of_decide_eq_false hy
              obtain ⟨g0, g1, g2, g3, go⟩ := ih _ _ _ _ _ _ _ _ _ _ _ h
              refine ⟨g0, g1, g2, g3, ?_⟩
              intro G p e R s m args below meth c Qf H locs ls hcx hin hrc hrs kk
              obtain ⟨q, hq, hx, hb, hml, hown, hts, hst, hrf, hrl, hnm, hax, hN⟩ := id hcx
              obtain ⟨hDy, hO, hPl, hL, hlen, hLo, hSo⟩ := hin
              obtain ⟨hI, hd⟩ := kck hq hmem
              have hd : decode (xbyt q.2.2.1) pc0 = .ok (_, len) := hd
              simp only [kchkI, Bool.and_eq_true, decide_eq_true_eq] at hI
              obtain ⟨h1, h2, h3⟩ := hI
              cases Nat.eq_of_beq_eq_true h1
              subst h2
              obtain ⟨hv, hT⟩ := cVt hSo
              obtain ⟨hw, hT⟩ := cVt hT
              obtain ⟨z1, y, rfl, hy1⟩ := cV_i hv hc.1
              obtain ⟨z2, x, rfl, hx1⟩ := cV_i hw hc.2
              have hy : ¬ y ≤ x := hy
              exact lv_icmp_ge hx hb hd h3 (fun q => absurd ((le32 hy1 hx1).mp q) hy) (fun _ => go G p e R s m args below meth c Qf H locs ls hcx ⟨hDy, hO, hPl, hL, hlen, hLo, hT⟩ hrc hrs kk)
            · simp only [hy] at h
              have hy := of_decide_eq_true hy
              obtain ⟨g0, g1, g2, g3, go⟩ := ih _ _ _ _ _ _ _ _ _ _ _ h
              refine ⟨g0, g1, g2, g3, ?_⟩
              intro G p e R s m args below meth c Qf H locs ls hcx hin hrc hrs kk
              obtain ⟨q, hq, hx, hb, hml, hown, hts, hst, hrf, hrl, hnm, hax, hN⟩ := id hcx
              obtain ⟨hDy, hO, hPl, hL, hlen, hLo, hSo⟩ := hin
              obtain ⟨hI, hd⟩ := kck hq hmem
              have hd : decode (xbyt q.2.2.1) pc0 = .ok (_, len) := hd
              simp only [kchkI, Bool.and_eq_true, decide_eq_true_eq] at hI
              obtain ⟨h1, h2, h3⟩ := hI
              cases Nat.eq_of_beq_eq_true h1
              subst h2
              obtain ⟨hv, hT⟩ := cVt hSo
              obtain ⟨hw, hT⟩ := cVt hT
              obtain ⟨z1, y, rfl, hy1⟩ := cV_i hv hc.1
              obtain ⟨z2, x, rfl, hx1⟩ := cV_i hw hc.2
              have hy :  y ≤ x := hy
              exact lv_icmp_ge hx hb hd h3 (fun _ => go G p e R s m args below meth c Qf H locs ls hcx ⟨hDy, hO, hPl, hL, hlen, hLo, hT⟩ hrc hrs kk) (fun q => absurd ((le32 hy1 hx1).mpr hy) q)
        case new idx =>
          obtain ⟨g0, g1, g2, g3, go⟩ := ih _ _ _ _ _ _ _ _ _ _ _ h
          refine ⟨g0, (by have g1 : (SH ++ [_]).length ≤ _ := g1; rw [List.length_append] at g1; exact Nat.le_trans (Nat.le_add_right _ _) g1), by omega, by omega, ?_⟩
          intro G p e R s m args below meth c Qf H locs ls hcx hin hrc hrs kk
          show W p l e R s m args below meth c H locs cl sl Qf (F0 m pc0 ls (List.map (mkV G) _))
          obtain ⟨q, hq, hx, hb, hml, hown, hts, hst, hrf, hrl, hnm, hax, hN⟩ := id hcx
          obtain ⟨hDy, hO, hPl, hL, hlen, hLo, hSo⟩ := hin
          obtain ⟨hI, hd⟩ := kck hq hmem
          have hd : decode (xbyt q.2.2.1) pc0 = .ok (_, len) := hd
          simp only [kchkI, Bool.and_eq_true] at hI
          obtain ⟨h1, h2⟩ := hI
          cases Nat.eq_of_beq_eq_true h1
          cases hc : xcl[a1]? with
          | none => rw [hc] at h2; cases h2
          | some r =>
            obtain ⟨C, T, N⟩ := r
            rw [hc] at h2
            simp only [Bool.and_eq_true, decide_eq_true_eq] at h2
            obtain ⟨e1, e2, e3, e4⟩ := h2
            cases Nat.eq_of_beq_eq_true e1
            refine c_new hx hb hts hst hDy hO (fun j => by rw [rd_ok hB]; exact rd_out hPl (Nat.le_refl _)) (fun q hq => hA q (Nat.le_trans hN hq)) hown hc (tt_mem e2 rfl) (tt_mem e3 rfl) (tt_mem e4 rfl) (by omega) (by omega) hd (def_ok hc) (fun Q1 H1 hDy1 hO1 => ?_)
            have hal : SH.length ≤ (SH ++ [(13, a1)]).length := by rw [List.length_append]; exact Nat.le_add_right _ _
            have hg := go (gx G SH.length Q1) p e R s m args below meth c Qf H1 locs ls ⟨q, hq, hx, hb, hml, hown, hts, xStat_g rfl hst, hrf, hrl, hnm, hax, hN⟩ ⟨hDy1, hO1, cP_app hPl hal, LR_g hLo cAg_gx hL, hlen, cVLs hLo hal, cVc (v := rV SH.length) ⟨by show (0 : Int) ≤ (SH.length : Int); omega, by show (SH.length : Int) < ((SH ++ [_]).length : Int); rw [List.length_append]; show (SH.length : Int) < ((SH.length + 1 : Nat) : Int); omega⟩ (cVls hSo hal)⟩ hrc hrs (fun G2 H2 l2 s2 hag hi => kk G2 H2 l2 s2 (cAg_tr cAg_gx hag hal) hi)
            have hg : W p l e R s m args below meth c H1 locs _ _ Qf (F0 m _ ls ((rV SH.length :: S).map (mkV (gx G SH.length Q1)))) := hg
            rw [List.map_cons, map_g hSo cAg_gx, show mkV (gx G SH.length Q1) (rV SH.length) = .ref Q1 from congrArg Value.ref (by rw [Int.toNat_natCast]; exact gx_at)] at hg
            exact hg
        case newarray ty =>
          cases S with
          | nil => cases h
          | cons v T =>
          cases hc : (Nat.beq v.1 0 && nin v.2.2) with
          | false => simp only [hc] at h; cases h
          | true =>
            simp only [hc] at h
            obtain ⟨g0, g1, g2, g3, go⟩ := ih _ _ _ _ _ _ _ _ _ _ _ h
            refine ⟨g0, (by have g1 : (SH ++ [_]).length ≤ _ := g1; rw [List.length_append] at g1; exact Nat.le_trans (Nat.le_add_right _ _) g1), by omega, by omega, ?_⟩
            intro G p e R s m args below meth c Qf H locs ls hcx hin hrc hrs kk
            show W p l e R s m args below meth c H locs cl sl Qf (F0 m pc0 ls (List.map (mkV G) _))
            obtain ⟨q, hq, hx, hb, hml, hown, hts, hst, hrf, hrl, hnm, hax, hN⟩ := id hcx
            obtain ⟨hDy, hO, hPl, hL, hlen, hLo, hSo⟩ := hin
            obtain ⟨hI, hd⟩ := kck hq hmem
            have hd : decode (xbyt q.2.2.1) pc0 = .ok (_, len) := hd
            rw [Bool.and_eq_true] at hc
            simp only [kchkI, Bool.and_eq_true] at hI
            obtain ⟨h1, h2⟩ := hI
            cases Nat.eq_of_beq_eq_true h1
            obtain ⟨hv, hT⟩ := cVt hSo
            obtain ⟨z, x, rfl, hx1⟩ := cV_i hv hc.1
            have hni : 0 ≤ x ∧ x < 200000 := nin_i hc.2
            obtain ⟨hn1, hn2⟩ := nin_n hni
            have hx200 : x.toNat < 200000 := by omega
            have g2 : cl + 1 ≤ _ := g2
            have g3 : sl + x.toNat ≤ _ := g3
            split at h2
            · have e9 := of_decide_eq_true h2
              subst e9
              refine c_newI hx hb hst hDy hO (fun j => by rw [rd_ok hB]; exact rd_out hPl (Nat.le_refl _)) (fun q hq => hA q (Nat.le_trans hN hq)) (hts _ w_ai) hn1 hn2 (by omega) (by omega) (by omega) hd (fun Q1 H1 hDy1 hO1 => ?_)
              have hal : SH.length ≤ (SH ++ [(3, x.toNat)]).length := by rw [List.length_append]; exact Nat.le_add_right _ _
              have hg := go (gx G SH.length Q1) p e R s m args below meth c Qf H1 locs ls ⟨q, hq, hx, hb, hml, hown, hts, xStat_g rfl hst, hrf, hrl, hnm, hax, hN⟩ ⟨hDy1, hO1, cP_app hPl hal, LR_g hLo cAg_gx hL, hlen, cVLs hLo hal, cVc (v := rV SH.length) ⟨by show (0 : Int) ≤ (SH.length : Int); omega, by show (SH.length : Int) < ((SH ++ [_]).length : Int); rw [List.length_append]; show (SH.length : Int) < ((SH.length + 1 : Nat) : Int); omega⟩ (cVls hT hal)⟩ hrc hrs (fun G2 H2 l2 s2 hag hi => kk G2 H2 l2 s2 (cAg_tr cAg_gx hag hal) hi)
              have hg : W p l e R s m args below meth c H1 locs _ _ Qf (F0 m _ ls ((rV SH.length :: T).map (mkV (gx G SH.length Q1)))) := hg
              rw [List.map_cons, map_g hT cAg_gx, show mkV (gx G SH.length Q1) (rV SH.length) = .ref Q1 from congrArg Value.ref (by rw [Int.toNat_natCast]; exact gx_at)] at hg
              exact hg
            · have e9 := of_decide_eq_true h2
              subst e9
              refine c_newL hx hb hst hDy hO (fun j => by rw [rd_ok hB]; exact rd_out hPl (Nat.le_refl _)) (fun q hq => hA q (Nat.le_trans hN hq)) (hts _ w_al) hn1 hn2 (by omega) (by omega) (by omega) hd (fun Q1 H1 hDy1 hO1 => ?_)
              have hal : SH.length ≤ (SH ++ [(4, x.toNat)]).length := by rw [List.length_append]; exact Nat.le_add_right _ _
              have hg := go (gx G SH.length Q1) p e R s m args below meth c Qf H1 locs ls ⟨q, hq, hx, hb, hml, hown, hts, xStat_g rfl hst, hrf, hrl, hnm, hax, hN⟩ ⟨hDy1, hO1, cP_app hPl hal, LR_g hLo cAg_gx hL, hlen, cVLs hLo hal, cVc (v := rV SH.length) ⟨by show (0 : Int) ≤ (SH.length : Int); omega, by show (SH.length : Int) < ((SH ++ [_]).length : Int); rw [List.length_append]; show (SH.length : Int) < ((SH.length + 1 : Nat) : Int); omega⟩ (cVls hT hal)⟩ hrc hrs (fun G2 H2 l2 s2 hag hi => kk G2 H2 l2 s2 (cAg_tr cAg_gx hag hal) hi)
              have hg : W p l e R s m args below meth c H1 locs _ _ Qf (F0 m _ ls ((rV SH.length :: T).map (mkV (gx G SH.length Q1)))) := hg
              rw [List.map_cons, map_g hT cAg_gx, show mkV (gx G SH.length Q1) (rV SH.length) = .ref Q1 from congrArg Value.ref (by rw [Int.toNat_natCast]; exact gx_at)] at hg
              exact hg
            · have e9 := of_decide_eq_true h2
              subst e9
              refine c_newZ hx hb hst hDy hO (fun j => by rw [rd_ok hB]; exact rd_out hPl (Nat.le_refl _)) (fun q hq => hA q (Nat.le_trans hN hq)) (hts _ w_az) hn1 hn2 (by omega) (by omega) (by omega) hd (fun Q1 H1 hDy1 hO1 => ?_)
              have hal : SH.length ≤ (SH ++ [(5, x.toNat)]).length := by rw [List.length_append]; exact Nat.le_add_right _ _
              have hg := go (gx G SH.length Q1) p e R s m args below meth c Qf H1 locs ls ⟨q, hq, hx, hb, hml, hown, hts, xStat_g rfl hst, hrf, hrl, hnm, hax, hN⟩ ⟨hDy1, hO1, cP_app hPl hal, LR_g hLo cAg_gx hL, hlen, cVLs hLo hal, cVc (v := rV SH.length) ⟨by show (0 : Int) ≤ (SH.length : Int); omega, by show (SH.length : Int) < ((SH ++ [_]).length : Int); rw [List.length_append]; show (SH.length : Int) < ((SH.length + 1 : Nat) : Int); omega⟩ (cVls hT hal)⟩ hrc hrs (fun G2 H2 l2 s2 hag hi => kk G2 H2 l2 s2 (cAg_tr cAg_gx hag hal) hi)
              have hg : W p l e R s m args below meth c H1 locs _ _ Qf (F0 m _ ls ((rV SH.length :: T).map (mkV (gx G SH.length Q1)))) := hg
              rw [List.map_cons, map_g hT cAg_gx, show mkV (gx G SH.length Q1) (rV SH.length) = .ref Q1 from congrArg Value.ref (by rw [Int.toNat_natCast]; exact gx_at)] at hg
              exact hg
            · have e9 := of_decide_eq_true h2
              subst e9
              refine c_newB hx hb hst hDy hO (fun j => by rw [rd_ok hB]; exact rd_out hPl (Nat.le_refl _)) (fun q hq => hA q (Nat.le_trans hN hq)) (hts _ w_ab) hn1 hn2 (by omega) (by omega) (by omega) hd (fun Q1 H1 hDy1 hO1 => ?_)
              have hal : SH.length ≤ (SH ++ [(12, x.toNat)]).length := by rw [List.length_append]; exact Nat.le_add_right _ _
              have hg := go (gx G SH.length Q1) p e R s m args below meth c Qf H1 locs ls ⟨q, hq, hx, hb, hml, hown, hts, xStat_g rfl hst, hrf, hrl, hnm, hax, hN⟩ ⟨hDy1, hO1, cP_app hPl hal, LR_g hLo cAg_gx hL, hlen, cVLs hLo hal, cVc (v := rV SH.length) ⟨by show (0 : Int) ≤ (SH.length : Int); omega, by show (SH.length : Int) < ((SH ++ [_]).length : Int); rw [List.length_append]; show (SH.length : Int) < ((SH.length + 1 : Nat) : Int); omega⟩ (cVls hT hal)⟩ hrc hrs (fun G2 H2 l2 s2 hag hi => kk G2 H2 l2 s2 (cAg_tr cAg_gx hag hal) hi)
              have hg : W p l e R s m args below meth c H1 locs _ _ Qf (F0 m _ ls ((rV SH.length :: T).map (mkV (gx G SH.length Q1)))) := hg
              rw [List.map_cons, map_g hT cAg_gx, show mkV (gx G SH.length Q1) (rV SH.length) = .ref Q1 from congrArg Value.ref (by rw [Int.toNat_natCast]; exact gx_at)] at hg
              exact hg
            · cases h2
        case anewarray idx =>
          cases S with
          | nil => cases h
          | cons v T =>
          cases hc : (Nat.beq v.1 0 && nin v.2.2) with
          | false => simp only [hc] at h; cases h
          | true =>
            simp only [hc] at h
            obtain ⟨g0, g1, g2, g3, go⟩ := ih _ _ _ _ _ _ _ _ _ _ _ h
            refine ⟨g0, (by have g1 : (SH ++ [_]).length ≤ _ := g1; rw [List.length_append] at g1; exact Nat.le_trans (Nat.le_add_right _ _) g1), by omega, by omega, ?_⟩
            intro G p e R s m args below meth c Qf H locs ls hcx hin hrc hrs kk
            show W p l e R s m args below meth c H locs cl sl Qf (F0 m pc0 ls (List.map (mkV G) _))
            obtain ⟨q, hq, hx, hb, hml, hown, hts, hst, hrf, hrl, hnm, hax, hN⟩ := id hcx
            obtain ⟨hDy, hO, hPl, hL, hlen, hLo, hSo⟩ := hin
            obtain ⟨hI, hd⟩ := kck hq hmem
            have hd : decode (xbyt q.2.2.1) pc0 = .ok (_, len) := hd
            rw [Bool.and_eq_true] at hc
            simp only [kchkI, Bool.and_eq_true, decide_eq_true_eq] at hI
            obtain ⟨h1, h2⟩ := hI
            cases Nat.eq_of_beq_eq_true h1
            obtain ⟨hv, hT⟩ := cVt hSo
            obtain ⟨z, x, rfl, hx1⟩ := cV_i hv hc.1
            have hni : 0 ≤ x ∧ x < 200000 := nin_i hc.2
            obtain ⟨hn1, hn2⟩ := nin_n hni
            have hx200 : x.toNat < 200000 := by omega
            have g2 : cl + 1 ≤ _ := g2
            have g3 : sl + x.toNat ≤ _ := g3
            refine c_newT hx hb hst hDy hO (fun j => by rw [rd_ok hB]; exact rd_out hPl (Nat.le_refl _)) (fun q hq => hA q (Nat.le_trans hN hq)) hown (hts _ (tt_mem h2 rfl)) hax.1 hn1 hn2 (by omega) (by omega) (by omega) hd (fun Q1 H1 hDy1 hO1 => ?_)
            have hal : SH.length ≤ (SH ++ [(14, x.toNat)]).length := by rw [List.length_append]; exact Nat.le_add_right _ _
            have hg := go (gx G SH.length Q1) p e R s m args below meth c Qf H1 locs ls ⟨q, hq, hx, hb, hml, hown, hts, xStat_g rfl hst, hrf, hrl, hnm, hax, hN⟩ ⟨hDy1, hO1, cP_app hPl hal, LR_g hLo cAg_gx hL, hlen, cVLs hLo hal, cVc (v := rV SH.length) ⟨by show (0 : Int) ≤ (SH.length : Int); omega, by show (SH.length : Int) < ((SH ++ [_]).length : Int); rw [List.length_append]; show (SH.length : Int) < ((SH.length + 1 : Nat) : Int); omega⟩ (cVls hT hal)⟩ hrc hrs (fun G2 H2 l2 s2 hag hi => kk G2 H2 l2 s2 (cAg_tr cAg_gx hag hal) hi)
            have hg : W p l e R s m args below meth c H1 locs _ _ Qf (F0 m _ ls ((rV SH.length :: T).map (mkV (gx G SH.length Q1)))) := hg
            rw [List.map_cons, map_g hT cAg_gx, show mkV (gx G SH.length Q1) (rV SH.length) = .ref Q1 from congrArg Value.ref (by rw [Int.toNat_natCast]; exact gx_at)] at hg
            exact hg
        case multianewarray idx dm =>
          cases S with
          | nil => cases h
          | cons w T =>
          cases T with
          | nil => cases h
          | cons v T =>
          cases hc : (Nat.beq v.1 0 && (nin v.2.2 && (Nat.beq w.1 0 && decide (w.2.2 = 17)))) with
          | false => simp only [hc] at h; cases h
          | true =>
            simp only [hc] at h
            obtain ⟨g0, g1, g2, g3, go⟩ := ih _ _ _ _ _ _ _ _ _ _ _ h
            refine ⟨g0, (by have g1 : (mnS SH _).length ≤ _ := g1; rw [mnS_len] at g1; omega), by omega, by omega, ?_⟩
            intro G p e R s m args below meth c Qf H locs ls hcx hin hrc hrs kk
            show W p l e R s m args below meth c H locs cl sl Qf (F0 m pc0 ls (List.map (mkV G) _))
            obtain ⟨q, hq, hx, hb, hml, hown, hts, hst, hrf, hrl, hnm, hax, hN⟩ := id hcx
            obtain ⟨hDy, hO, hPl, hL, hlen, hLo, hSo⟩ := hin
            obtain ⟨hI, hd⟩ := kck hq hmem
            have hd : decode (xbyt q.2.2.1) pc0 = .ok (_, len) := hd
            simp only [Bool.and_eq_true, decide_eq_true_eq] at hc
            simp only [kchkI, Bool.and_eq_true, decide_eq_true_eq] at hI
            obtain ⟨h1, h2, h3⟩ := hI
            cases Nat.eq_of_beq_eq_true h1
            subst h2
            obtain ⟨hw, hT⟩ := cVt hSo
            obtain ⟨hv, hT⟩ := cVt hT
            obtain ⟨z, x, rfl, hx1⟩ := cV_i hv hc.1
            obtain ⟨z2, y, rfl, hy1⟩ := cV_i hw hc.2.2.1
            have hy17 : y = 17 := hc.2.2.2
            subst hy17
            have hni : 0 ≤ x ∧ x < 200000 := nin_i hc.2.1
            obtain ⟨hn1, hn2⟩ := nin_n hni
            have hx200 : x.toNat < 200000 := by omega
            have g2 : cl + 1 + x.toNat ≤ _ := g2
            have g3 : sl + x.toNat + x.toNat * 17 ≤ _ := g3
            refine c_mna hx hb hst hDy hO (fun b hbl j => by rw [rd_ok hB]; exact rd_out hPl hbl) (fun q hq => hA q (Nat.le_trans hN hq)) hown (hts _ (tt_mem h3 rfl)) hax.2 (hts _ w_al) hn1 (show ¬ Int32.ofInt 17 < 0 by decide) hn2 (show (Int32.ofInt 17).toNatClampNeg = 17 by decide) (by omega) (by omega) (by omega) hd (fun Q1 H1 hDy1 hO1 => ?_)
            have hal : SH.length ≤ (mnS SH x.toNat).length := by rw [mnS_len]; omega
            have hg := go (gxs G SH.length Q1) p e R s m args below meth c Qf H1 locs ls ⟨q, hq, hx, hb, hml, hown, hts, xStat_g rfl hst, hrf, hrl, hnm, hax, hN⟩ ⟨hDy1, hO1, cP_cons (cP_app hPl hal) (by show SH.length < (mnS SH x.toNat).length; rw [mnS_len]; omega), LR_g hLo cAg_gxs hL, hlen, cVLs hLo hal, cVc (v := rV SH.length) ⟨by show (0 : Int) ≤ (SH.length : Int); omega, by show (SH.length : Int) < ((mnS SH _).length : Int); rw [mnS_len]; omega⟩ (cVls hT hal)⟩ hrc hrs (fun G2 H2 l2 s2 hag hi => kk G2 H2 l2 s2 (cAg_tr cAg_gxs hag hal) hi)
            have hg : W p l e R s m args below meth c H1 locs _ _ Qf (F0 m (pc0 + 4) ls ((rV SH.length :: T).map (mkV (gxs G SH.length Q1)))) := hg
            rw [List.map_cons, map_g hT cAg_gxs, show mkV (gxs G SH.length Q1) (rV SH.length) = .ref Q1 from congrArg Value.ref (by rw [Int.toNat_natCast, gxs_ge (Nat.le_refl _), Nat.sub_self]; rfl)] at hg
            exact hg
        case putfield idx =>
          cases S with
          | nil => cases h
          | cons w T =>
          cases T with
          | nil => cases h
          | cons v T =>
          cases hc : (Nat.beq w.1 15 && (Nat.beq v.1 15 && decide (SH[v.2.2.toNat]? = some (13, a1)))) with
          | false => simp only [hc] at h; cases h
          | true =>
            simp only [hc] at h
            obtain ⟨g0, g1, g2, g3, go⟩ := ih _ _ _ _ _ _ _ _ _ _ _ h
            refine ⟨g0, g1, g2, g3, ?_⟩
            intro G p e R s m args below meth c Qf H locs ls hcx hin hrc hrs kk
            show W p l e R s m args below meth c H locs cl sl Qf (F0 m pc0 ls (List.map (mkV G) _))
            obtain ⟨q, hq, hx, hb, hml, hown, hts, hst, hrf, hrl, hnm, hax, hN⟩ := id hcx
            obtain ⟨hDy, hO, hPl, hL, hlen, hLo, hSo⟩ := hin
            obtain ⟨hI, hd⟩ := kck hq hmem
            have hd : decode (xbyt q.2.2.1) pc0 = .ok (_, len) := hd
            simp only [Bool.and_eq_true, decide_eq_true_eq] at hc
            simp only [kchkI, Bool.and_eq_true] at hI
            obtain ⟨h1, h2, h3, h4, h5⟩ := hI
            cases Nat.eq_of_beq_eq_true h1
            cases hf : fls[ts.headD 0]? with
            | none => rw [hf] at h2; cases h2
            | some r =>
            obtain ⟨o, i, ci, kf, pos⟩ := r
            rw [hf] at h2
            simp only [Bool.and_eq_true] at h2
            obtain ⟨e1, e2, e3, e4⟩ := h2
            cases Nat.eq_of_beq_eq_true e1
            cases Nat.eq_of_beq_eq_true e2
            cases Nat.eq_of_beq_eq_true e3
            cases Nat.eq_of_beq_eq_true e4
            obtain ⟨C, TF, N, hcl, hkf, hC1, hlk⟩ := fls_at hf
            obtain ⟨hn, hws, hcn, ty0, hty, hkt, hnmf⟩ := xcl_ok _ _ hcl
            dsimp only at hn hws hcn hty hkt hnmf
            cases Nat.eq_of_beq_eq_true h4
            have h3 := Nat.le_of_ble_eq_true h3
            obtain ⟨hw, hT⟩ := cVt hSo
            obtain ⟨hv, hT⟩ := cVt hT
            obtain ⟨zj, j, rfl, hj⟩ := cV_r hw hc.1
            obtain ⟨za, a, rfl, ha⟩ := cV_r hv hc.2.1
            have hsh : SH[a]? = some (13, k) := hc.2.2
            rw [hcl] at h5
            have hrt := refT_ok (rf_at hcl hkf (hty _ hkf) h3)
            have hfin : (TF a2).2.2.2 = true := h5
            refine c_put hx hb hts hst hDy hO hown hcl hsh hj hkf h3 hlk hfin hnm (by rw [hC1]; exact hcn.symm) (hty _ hkf) hrt.1 hrt.2.1 hd (fun H1 locs1 hDy1 hO1 => ?_)
            exact go G p e R s m args below meth c Qf H1 locs1 ls hcx ⟨hDy1, hO1, cP_cons hPl ha, hL, hlen, hLo, hT⟩ hrc hrs kk
        case getfield idx =>
          cases S with
          | nil => cases h
          | cons v T =>
          cases hc : (Nat.beq v.1 15 && (decide (SH[v.2.2.toNat]? = some (13, a1)) && !decide (rd P v.2.2.toNat a2 = 0))) with
          | false => simp only [hc] at h; cases h
          | true =>
            simp only [hc] at h
            obtain ⟨g0, g1, g2, g3, go⟩ := ih _ _ _ _ _ _ _ _ _ _ _ h
            refine ⟨g0, g1, g2, g3, ?_⟩
            intro G p e R s m args below meth c Qf H locs ls hcx hin hrc hrs kk
            show W p l e R s m args below meth c H locs cl sl Qf (F0 m pc0 ls (List.map (mkV G) _))
            obtain ⟨q, hq, hx, hb, hml, hown, hts, hst, hrf, hrl, hnm, hax, hN⟩ := id hcx
            obtain ⟨hDy, hO, hPl, hL, hlen, hLo, hSo⟩ := hin
            obtain ⟨hI, hd⟩ := kck hq hmem
            have hd : decode (xbyt q.2.2.1) pc0 = .ok (_, len) := hd
            simp only [Bool.and_eq_true, decide_eq_true_eq, Bool.not_eq_true', decide_eq_false_iff_not] at hc
            simp only [kchkI, Bool.and_eq_true] at hI
            obtain ⟨h1, h2, h3⟩ := hI
            cases Nat.eq_of_beq_eq_true h1
            cases hf : fls[ts.headD 0]? with
            | none => rw [hf] at h2; cases h2
            | some r =>
            obtain ⟨o, i, ci, kf, pos⟩ := r
            rw [hf] at h2
            simp only [Bool.and_eq_true] at h2
            obtain ⟨e1, e2, e3, e4⟩ := h2
            cases Nat.eq_of_beq_eq_true e1
            cases Nat.eq_of_beq_eq_true e2
            cases Nat.eq_of_beq_eq_true e3
            cases Nat.eq_of_beq_eq_true e4
            obtain ⟨C, TF, N, hcl, hkf, hC1, hlk⟩ := fls_at hf
            obtain ⟨hn, hws, hcn, ty0, hty, hkt, hnmf⟩ := xcl_ok _ _ hcl
            dsimp only at hn hws hcn hty hkt hnmf
            have h3 := Nat.le_of_ble_eq_true h3
            obtain ⟨hv, hT⟩ := cVt hSo
            obtain ⟨za, a, rfl, ha⟩ := cV_r hv hc.1
            have hsh : SH[a]? = some (13, a1) := hc.2.1
            have hz0 : ¬ rd P a a2 = 0 := hc.2.2
            have hO : okO SH (cM B P) := hO
            have hoo := hO.1 a a1 (Or.inl hsh) a2
            rw [rd_ok hB] at hoo
            obtain ⟨b, hbb⟩ : ∃ b : Nat, rd P a a2 = (b : Int) + 1 := ⟨(rd P a a2 - 1).toNat, by omega⟩
            have eb : (rd P a a2 - 1).toNat = b := by omega
            have hg := go G p e R s m args below meth c Qf H locs ls hcx ⟨hDy, hO, hPl, hL, hlen, hLo, cVc (v := rV (rd P a a2 - 1).toNat) ⟨by show (0 : Int) ≤ (((rd P a a2 - 1).toNat : Nat) : Int); omega, by show (((rd P a a2 - 1).toNat : Nat) : Int) < (SH.length : Int); omega⟩ hT⟩ hrc hrs kk
            have hg : W p l e R s m args below meth c H locs cl sl Qf (F0 m (pc0 + 3) ls ((rV (rd P a a2 - 1).toNat :: T).map (mkV G))) := hg
            rw [List.map_cons, eb] at hg
            refine va_get (D := D) hx hb hts hws hown hst.1 hDy.1 a (xW_at hsh) hcl _ hkf (hts _ hlk) (fun _ z => z) (v := mkV G (rV b)) ?_ hd hg
            unfold cfl
            rw [List.getElem?_map, List.getElem?_range (by rw [hn]; exact hkf)]
            show some (cfv G (cM B P) a a2 (xfld a1 a2)) = some (Value.ref (G.1 ((b : Int)).toNat))
            unfold cfv
            rw [rd_ok hB, hbb]
            revert h3
            cases xfld a1 a2 with
            | mk kd r =>
              match kd with
              | 0 => exact fun h3 => absurd h3 (by simp)
              | 1 => exact fun h3 => absurd h3 (by simp)
              | kd + 2 =>
                intro _
                show some (if ((b : Int) + 1) = 0 then Value.null else .ref (G.1 (((b : Int) + 1) - 1).toNat)) = _
                rw [if_neg (by omega), show (((b : Int) + 1) - 1).toNat = b by omega, Int.toNat_natCast]
        case aastore =>
          cases S with
          | nil => cases h
          | cons w T =>
          cases T with
          | nil => cases h
          | cons i T =>
          cases T with
          | nil => cases h
          | cons v T =>
          cases hsv : SH[v.2.2.toNat]? with
          | none => simp only [hsv] at h; cases h
          | some r =>
          obtain ⟨t, n⟩ := r
          simp only [hsv] at h
          cases hc : (Nat.beq w.1 15 && (Nat.beq i.1 0 && (Nat.beq v.1 15 && (Nat.beq t 14 && (decide (SH[w.2.2.toNat]? = some (2, 6)) && (nin i.2.2 && Nat.blt i.2.2.toNat n)))))) with
          | false => simp only [hc] at h; cases h
          | true =>
            simp only [hc] at h
            obtain ⟨g0, g1, g2, g3, go⟩ := ih _ _ _ _ _ _ _ _ _ _ _ h
            refine ⟨g0, g1, g2, g3, ?_⟩
            intro G p e R s m args below meth c Qf H locs ls hcx hin hrc hrs kk
            obtain ⟨q, hq, hx, hb, hml, hown, hts, hst, hrf, hrl, hnm, hax, hN⟩ := id hcx
            obtain ⟨hDy, hO, hPl, hL, hlen, hLo, hSo⟩ := hin
            obtain ⟨hI, hd⟩ := kck hq hmem
            have hd : decode (xbyt q.2.2.1) pc0 = .ok (_, len) := hd
            cases Nat.eq_of_beq_eq_true hI
            simp only [Bool.and_eq_true, decide_eq_true_eq] at hc
            obtain ⟨c1, c2, c3, c4, c5, c6, c7⟩ := hc
            cases Nat.eq_of_beq_eq_true c4
            obtain ⟨hw, hT⟩ := cVt hSo
            obtain ⟨hi, hT⟩ := cVt hT
            obtain ⟨hv, hT⟩ := cVt hT
            obtain ⟨zj, j, rfl, hj⟩ := cV_r hw c1
            obtain ⟨zi, x, rfl, hx1⟩ := cV_i hi c2
            obtain ⟨za, a, rfl, ha⟩ := cV_r hv c3
            have hni : 0 ≤ x ∧ x < 200000 := nin_i c6
            obtain ⟨y, rfl⟩ := nat_of hni.1
            have hyn : y < n := Nat.le_of_ble_eq_true c7
            refine c_ast hx hb hst hDy hO hsv c5 hyn hx1 hd (fun H1 locs1 hDy1 hO1 => ?_)
            exact go G p e R s m args below meth c Qf H1 locs1 ls hcx ⟨hDy1, hO1, cP_cons hPl ha, hL, hlen, hLo, hT⟩ hrc hrs kk
        case invokespecial idx =>
          cases S with
          | nil => cases h
          | cons v T =>
          cases hc : (Nat.beq v.1 15 && Nat.ble (wid T) 8) with
          | false => simp only [hc] at h; cases h
          | true =>
            simp only [hc] at h
            rw [Bool.and_eq_true] at hc
            have hwid := Nat.le_of_ble_eq_true hc.2
            cases h10 : Nat.beq a1 10 with
            | true =>
              simp only [h10] at h
              obtain ⟨g0, g1, g2, g3, go⟩ := ih _ _ _ _ _ _ _ _ _ _ _ h
              refine ⟨g0, g1, g2, g3, ?_⟩
              intro G p e R s m args below meth c Qf H locs ls hcx hin hrc hrs kk
              show W p l e R s m args below meth c H locs cl sl Qf (F0 m pc0 ls (List.map (mkV G) _))
              obtain ⟨q, hq, hx, hb, hml, hown, hts, hst, hrf, hrl, hnm, hax, hN⟩ := id hcx
              obtain ⟨hDy, hO, hPl, hL, hlen, hLo, hSo⟩ := hin
              obtain ⟨hI, hd⟩ := kck hq hmem
              have hd : decode (xbyt q.2.2.1) pc0 = .ok (_, len) := hd
              simp only [kchkI, Bool.and_eq_true, h10, decide_eq_true_eq] at hI
              obtain ⟨h1, h2⟩ := hI
              cases Nat.eq_of_beq_eq_true h1
              obtain ⟨hv, hT⟩ := cVt hSo
              obtain ⟨za, a, rfl, ha⟩ := cV_r hv hc.1
              refine W.objInit (g := F0 m pc0 ls (.ref (G.1 a) :: T.map (mkV G))) hx hb hown (hts _ (tt_mem h2 rfl)) (hts _ w_oi) (hts _ w_oc) rfl (by rw [hml]; show ls.size = _; rw [hL.1, hlen, kL_at hq]) rfl hd (by omega) (by rw [wid_cat]; show 2 * 0 + _ + 12 ≤ _; omega) ?_
              exact go G p e R s m args below meth c Qf H locs ls hcx ⟨hDy, hO, hPl, hL, hlen, hLo, hT⟩ hrc hrs kk
            | false =>
              simp only [h10] at h
              cases d with
              | zero => cases h
              | succ d1 =>
                cases hr : cRun f d1 a1 (kR a1) (0, lay [v] (kL a1), [], SH, P, 0, 0) with
                | none => simp only [hr] at h; cases h
                | some r =>
                  obtain ⟨pcr, L1, S1, SH1, P1, mc, ms⟩ := r
                  simp only [hr] at h
                  cases S1 with
                  | cons _ _ => cases h
                  | nil =>
                    obtain ⟨g0, g1, g2, g3, go⟩ := ih _ _ _ _ _ _ _ _ _ _ _ h
                    obtain ⟨i0, i1, i2, i3, io⟩ := ih _ _ _ _ _ _ _ _ _ _ _ hr
                    have i0 : pcr = kR a1 := i0
                    subst i0
                    have i1 : SH.length ≤ SH1.length := i1
                    have g1 : (cDone SH1 P1 v.2.2.toNat).length ≤ res.2.2.2.1.length := g1
                    rw [cDone_len] at g1
                    refine ⟨g0, by omega, by omega, by omega, ?_⟩
                    intro G p e R s m args below meth c Qf H locs ls hcx hin hrc hrs kk
                    show W p l e R s m args below meth c H locs cl sl Qf (F0 m pc0 ls (List.map (mkV G) _))
                    obtain ⟨q, hq, hx, hb, hml, hown, hts, hst, hrf, hrl, hnm, hax, hN⟩ := id hcx
                    obtain ⟨hDy, hO, hPl, hL, hlen, hLo, hSo⟩ := hin
                    obtain ⟨hI, hd⟩ := kck hq hmem
                    have hd : decode (xbyt q.2.2.1) pc0 = .ok (_, len) := hd
                    simp only [kchkI, Bool.and_eq_true, h10] at hI
                    obtain ⟨h1, h2⟩ := hI
                    cases Nat.eq_of_beq_eq_true h1
                    cases hq1 : kts[a1]? with
                    | none => rw [hq1] at h2; cases h2
                    | some q1 =>
                      rw [hq1] at h2
                      obtain ⟨hv, hT⟩ := cVt hSo
                      obtain ⟨za, a, rfl, ha⟩ := cV_r hv hc.1
                      have hDy : xDyn SH G cA D A Ls xs s.heap (cM B P) H locs := hDy
                      have hlk : kLk a2 k idx (ts.headD 0) q1.1 := by
                        revert h2
                        cases a2 with
                        | zero => exact fun h2 => of_decide_eq_true (p := lw_tbl[ts.headD 0]? = some (Cond.methodLink (xcn k) idx q1.1)) h2
                        | succ _ => exact fun h2 => of_decide_eq_true (p := lw_tbl[ts.headD 0]? = some (Cond.methodLinkNest (xcn k) idx q1.1 "RouteStrides")) h2
                      have hMet := k_met (SH2 := cDone SH1 P1 a) (Qm := fun N => N = cM B P1 ∧ (∀ q ∈ P1, q.2.1 < SH1.length) ∧ okO (cDone SH1 P1 a) (cM B P1)) hq1 (kok_at hq1) hA ha io hDy.2.1 hDy.2.2.2.1 hO hPl hDy.2.2.2.2 (fun G2 p e R s m below meth c Qf H locs ls hcx2 _ _ hg2 hin2 kk2 => by
                        obtain ⟨k1, k2⟩ := cDone_ok hB a hin2.1 hin2.2.1
                        exact kk2 G2 (cM B P1) H locs ls hg2 ⟨rfl, hin2.2.2.1, k2⟩ k1)
                      have g2 : cl + mc ≤ _ := g2
                      have g3 : sl + ms ≤ _ := g3
                      refine k_inv hq1 (kok_at hq1) hMet hx hb hml hown hts hst hax hN hDy hlk (by omega) (by omega) (by omega) (by omega) (by rw [hL.1, hlen, kL_at hq]) (by rw [wid_cat]; exact hwid) hd (fun G2 N H1 locs1 hg2 hN2 hdy2 => ?_)
                      obtain ⟨hN2, hpl1, hO2⟩ := hN2
                      subst hN2
                      have hal : SH.length ≤ (cDone SH1 P1 a).length := by rw [cDone_len]; exact i1
                      have hpl2 : ∀ q ∈ P1, q.2.1 < (cDone SH1 P1 a).length := by rw [cDone_len]; exact hpl1
                      have hg := go G2 p e R s m args below meth c Qf H1 locs1 ls ⟨q, hq, hx, hb, hml, hown, hts, xStat_g hg2.1 hst, hrf, hrl, hnm, hax, hN⟩ ⟨hdy2, hO2, hpl2, LR_g hLo hg2 hL, hlen, cVLs hLo hal, cVls hT hal⟩ hrc hrs (fun G3 H2 l2 s2 hag hi => kk G3 H2 l2 s2 (cAg_tr hg2 hag hal) hi)
                      have hg : W p l e R s m args below meth c H1 locs1 _ _ Qf (F0 m (pc0 + 3) ls (T.map (mkV G2))) := hg
                      rw [map_g hT hg2] at hg
                      exact hg
        case invokevirtual idx =>
          cases S with
          | nil => cases h
          | cons v T =>
          cases hc : (Nat.beq v.1 15 && (Nat.ble (wid T) 8 && (decide ((cDone SH P v.2.2.toNat)[v.2.2.toNat]? = some (2, 6)) && decide ((cDone SH P v.2.2.toNat)[v.2.2.toNat + 6]? = some (3, 16))))) with
          | false => simp only [hc] at h; cases h
          | true =>
            simp only [hc] at h
            cases d with
            | zero => cases h
            | succ d1 =>
              obtain ⟨g0, g1, g2, g3, go⟩ := ih _ _ _ _ _ _ _ _ _ _ _ h
              have g1 : (cDone SH P v.2.2.toNat).length ≤ res.2.2.2.1.length := g1
              rw [cDone_len] at g1
              refine ⟨g0, g1, g2, g3, ?_⟩
              intro G p e R s m args below meth c Qf H locs ls hcx hin hrc hrs kk
              show W p l e R s m args below meth c H locs cl sl Qf (F0 m pc0 ls (List.map (mkV G) _))
              obtain ⟨q, hq, hx, hb, hml, hown, hts, hst, hrf, hrl, hnm, hax, hN⟩ := id hcx
              obtain ⟨hDy, hO, hPl, hL, hlen, hLo, hSo⟩ := hin
              obtain ⟨hI, hd⟩ := kck hq hmem
              have hd : decode (xbyt q.2.2.1) pc0 = .ok (_, len) := hd
              simp only [kchkI, Bool.and_eq_true] at hI
              obtain ⟨h1, h2, h3⟩ := hI
              cases Nat.eq_of_beq_eq_true h1
              cases Nat.eq_of_beq_eq_true h2
              simp only [Bool.and_eq_true, decide_eq_true_eq] at hc
              obtain ⟨c1, c2, c3, c4⟩ := hc
              obtain ⟨hv, hT⟩ := cVt hSo
              obtain ⟨za, a, rfl, ha⟩ := cV_r hv c1
              have c3 : (cDone SH P a)[a]? = some (2, 6) := c3
              have c4 : (cDone SH P a)[a + 6]? = some (3, 16) := c4
              have hwid := Nat.le_of_ble_eq_true c2
              obtain ⟨hDy1, hO1⟩ := cDone_ok hB a hDy hO
              cases hm : mls[ts.headD 0]? with
              | none => rw [hm] at h3; cases h3
              | some r =>
                obtain ⟨o, i, k1, nest, pos⟩ := r
                rw [hm] at h3
                simp only [Bool.and_eq_true] at h3
                obtain ⟨e1, e2, e3, e4⟩ := h3
                cases Nat.eq_of_beq_eq_true e1
                cases Nat.eq_of_beq_eq_true e2
                cases Nat.eq_of_beq_eq_true e3
                cases Nat.eq_of_beq_eq_true e4
                exact k_virt (As := []) (b := a) tf_mts (by decide) (hTF _ _ _ a _ _) (show 1 ≤ 2 by decide) (fun _ hv => by cases hv) rfl hx hb hml hown hts hst hDy1 c3 (mls_at hm) (by omega) (by omega) (by omega) (by omega) (by rw [hL.1, hlen, kL_at hq]) (by rw [wid_cat]; exact hwid) hd (fun r N H1 locs1 hN1 hdy2 => by
                  obtain ⟨-, hN1⟩ := hN1
                  subst hN1
                  exact go G p e R s m args below meth c Qf H1 locs1 ls hcx ⟨hdy2, tf_ok hO1 c3 c4, tf_pl hPl c3 c4, hL, hlen, by rw [cDone_len]; exact hLo, by rw [cDone_len]; exact hT⟩ hrc hrs (fun G3 H2 l2 s2 hag hi => kk G3 H2 l2 s2 (by rw [cDone_len] at hag; exact hag) hi))

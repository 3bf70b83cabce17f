/-! CONSTRUCTION'S RUN: what the interpreter says, the machine does. -/
def kAux (s : State) : Prop := va_AO "RouteStrides$Table" s ∧ (Cond.arrayOver (.array .long)).before #[] s = true
theorem kAux_al {s U : State} (h : s.vm.Alike U.vm) (hs : kAux s) : kAux U := ⟨va_AO.moved h hs.1, Jvm.Stand.arrayOver_alikeB h hs.2⟩
def kCx (G : xG) (cA : Nat → ClassId) (D : va_G) (A : Nat → Prop) (Ls : Nat) (xs : Nat → Int32) (N0 k d : Nat) (p : Program) (R : Room) (s : State) (m : MethodId) (args : Array Value) (meth : Method) (c : Code) : Prop :=
  ∃ q, kts[k]? = some q ∧ p.tables.exec = Jvm.exec ∧ c.code = xbyt q.2.2.1 ∧ c.maxLocals = q.2.1 ∧ s.vm.findClass (xcn k) = some m.cls ∧ (∀ w ∈ xTT, w.before args s = true) ∧ xStat G cA D A Ls xs s ∧ d + 8 ≤ R.frames ∧ 60 * d + 200 ≤ R.locals ∧ meth.name = "<init>" ∧ kAux s ∧ N0 ≤ s.heap.size
def cIn (G : xG) (cA : Nat → ClassId) (D : va_G) (A : Nat → Prop) (Ls : Nat) (xs : Nat → Int32) (B : xM) (ml : Nat) (H0 H : Heap) (locs : List Loc) (ls : Array Slot) (L S : List xV) (SH : xSH) (P : List cO) : Prop :=
  xDyn SH G cA D A Ls xs H0 (cM B P) H locs ∧ okO SH (cM B P) ∧ (∀ q ∈ P, q.2.1 < SH.length) ∧ LR G ls L ∧ L.length = ml ∧ (∀ v ∈ L, v.1 = 9 ∨ cV SH.length v) ∧ ∀ v ∈ S, cV SH.length v
def kQc (SH : xSH) (G : xG) (cA : Nat → ClassId) (D : va_G) (A : Nat → Prop) (Ls : Nat) (xs : Nat → Int32) (n : Nat) (Qm : xM → Prop) : Array Value → State → Outcome → State → Prop := fun _ st o t =>
  (∃ (G2 : xG) (M : xM), o = .returned none ∧ cAg n G G2 ∧ Qm M ∧ va_P D xcl (xW SH G2 cA M) t.heap ∧ va_D A (xW SH G2 cA M) ∧ okM SH M ∧ xScr Ls xs M) ∧ va_F A st t
def kPre (SH : xSH) (G : xG) (cA : Nat → ClassId) (D : va_G) (A : Nat → Prop) (Ls : Nat) (xs : Nat → Int32) (N0 : Nat) (M : xM) (U : State) : Prop := xStat G cA D A Ls xs U ∧ kAux U ∧ N0 ≤ U.heap.size ∧ va_P D xcl (xW SH G cA M) U.heap
def kLk (nest own idx pos : Nat) (y : MethodName) : Prop := match nest with
  | 0 => lw_tbl[pos]? = some (Cond.methodLink (xcn own) idx y)
  | _ => lw_tbl[pos]? = some (Cond.methodLinkNest (xcn own) idx y "RouteStrides")
section KRows
variable {p : Program} {l : Launch} {e : Env} {R : Room} {s : State} {m : MethodId} {args : Array Value} {below : List Frame} {meth : Method} {c : Code} {H : Heap} {locs : List Loc} {cells slots : Nat} {Q : State → Prop}
variable {pc : Nat} {ls : Array Slot} {rest : List Value} {SH : xSH} {G : xG} {cA : Nat → ClassId} {D : va_G} {A : Nat → Prop} {Ls : Nat} {xs : Nat → Int32} {M : xM}
theorem k_back {SH2 : xSH} {st0 : List Value} {a : Array Value} {n mc ms : Nat} {Qm : xM → Prop}
    (hr : va_Run p l e R s m args below meth c H locs cells slots mc ms (F0 m pc ls st0) rest (kQc SH2 G cA D A Ls xs n Qm a) A) (hS : va_S A s.heap H locs)
    (kk : ∀ (G2 : xG) (N : xM) (H1 : Heap) (locs1 : List Loc), cAg n G G2 → Qm N → xDyn SH2 G2 cA D A Ls xs s.heap N H1 locs1 → W p l e R s m args below meth c H1 locs1 (cells + mc) (slots + ms) Q (F0 m (pc + 3) ls rest)) : W p l e R s m args below meth c H locs cells slots Q (F0 m pc ls st0) := by
  intro T hT X
  obtain ⟨v, st₀, t, T', L, h0, X', hL, e1, e2, ⟨⟨G2, N, hv, hg, hq, hP, hD, hM, hSc⟩, hz, hk⟩, st⟩ := hr T hT X
  cases hv
  rw [h0] at hz hk
  obtain ⟨t2, a1, b1⟩ := kk G2 N T'.heap (locs ++ L) hg hq ⟨by rw [e1]; exact hP, hD, ⟨Nat.le_trans hS.1 (by rw [e1]; exact hz), fun q h1 h2 => by rw [e1, hk q (Nat.lt_of_lt_of_le h1 hS.1) h2]; exact hS.2.1 q h1 h2, fun q hq => by
      rcases List.mem_append.mp hq with h | h
      · exact hS.2.2 q h
      · exact hL q h⟩, hM, hSc⟩ T' rfl X'
  exact ⟨t2, st t2 a1, b1⟩
/-- a constructor is called -/
theorem k_inv {own idx k nest pos d1 mc ms n b ml0 : Nat} {q : MethodName × Nat × Nat × Nat × Nat} {SH2 : xSH} {Qm : xM → Prop} {N0 : Nat} {cc : ByteArray} (hq : kts[k]? = some q) (hok : kokB k = true)
    (hMet : Met l q.1 (Cond.code q.1 (xbyt q.2.2.1) q.2.1 none :: xTT) { frames := d1 + 8, cells := mc, slots := ms, locals := 60 * d1 + 200 } (va_Pc [.ref b] (kPre SH G cA D A Ls xs N0 M)) (kQc SH2 G cA D A Ls xs n Qm) mc ms A)
    (hx : p.tables.exec = Jvm.exec) (hb : c.code = cc) (hml : c.maxLocals = ml0) (hown : s.vm.findClass (xcn own) = some m.cls) (hts : ∀ w ∈ xTT, w.before args s = true) (hst : xStat G cA D A Ls xs s) (hax : kAux s) (hN : N0 ≤ s.heap.size) (hDy : xDyn SH G cA D A Ls xs s.heap M H locs)
    (hlk : kLk nest own idx pos q.1)
    (hf : d1 + 1 + 8 ≤ R.frames) (hl : 60 * (d1 + 1) + 200 ≤ R.locals) (hc : cells + mc ≤ R.cells) (hsl : slots + ms ≤ R.slots) (hls : ls.size = ml0) (hw : (rest.map fun v => v.category).sum ≤ 8) (hd : decode cc pc = .ok (.invokespecial idx, 3))
    (kk : ∀ (G2 : xG) (N : xM) (H1 : Heap) (locs1 : List Loc), cAg n G G2 → Qm N → xDyn SH2 G2 cA D A Ls xs s.heap N H1 locs1 → W p l e R s m args below meth c H1 locs1 (cells + mc) (slots + ms) Q (F0 m (pc + 3) ls rest)) : W p l e R s m args below meth c H locs cells slots Q (F0 m pc ls (.ref b :: rest)) := by
  obtain ⟨y, ml, pc0, pi, pk⟩ := q
  simp only [kokB, hq, Bool.and_eq_true, decide_eq_true_eq] at hok
  obtain ⟨hcn, hcode, hini, hins, hpl, hn1, hn2, hnp, hnm, hm4, hm1⟩ := hok
  have hcm : Cond.code y (xbyt pc0) ml none ∈ xTT := by
    unfold xbyt
    cases hl2 : lw_tbl[pc0]? with
    | none => rw [hl2] at hcode; cases hcode
    | some w =>
      rw [hl2] at hcode
      cases w <;> first | (cases hcode; done) | skip
      simp only [Bool.and_eq_true, decide_eq_true_eq] at hcode
      obtain ⟨e1, e2, e3⟩ := hcode
      subst e1; subst e2; subst e3
      exact tt_mem hl2 rfl
  have hm4 := Nat.le_of_ble_eq_true hm4
  have hG : GoodIn xTT (Cond.code y (xbyt pc0) ml none :: xTT) := fun w hw => by
    rcases List.mem_cons.mp hw with e | e
    · rw [e]; exact tt_good _ hcm
    · exact tt_good w e
  have hbl : FrameBlind (va_Pc [.ref b] (kPre SH G cA D A Ls xs N0 M)) := fun a U g mk q => ⟨q.1, xStat_same rfl rfl q.2.1, kAux_al (Vm.Alike.refl _) q.2.2.1, q.2.2.2.1, q.2.2.2.2⟩
  have hpre : ∀ U : State, U.heap = H → s.WarmedH U.vm → kPre SH G cA D A Ls xs N0 M U := fun U hU hW => ⟨xStat_warm hW hU hDy.2.2.1 hst, kAux_al hW.alike hax, by rw [hU]; exact Nat.le_trans hN hDy.2.2.1.1, by rw [hU]; exact hDy.1⟩
  have hroom : d1 + 8 + 1 ≤ R.frames ∧ 8 + (ml + 11) + (60 * d1 + 200) ≤ R.locals := ⟨by omega, by omega⟩
  have hwid : 2 * (F0 m pc ls (.ref b :: rest)).monitorRoom + (rest.map fun v => v.category).sum ≤ 8 := by
    show 2 * 0 + _ ≤ 8
    omega
  cases nest with
  | zero =>
    have hCB : CallB R s args (xcn own) idx y (xbyt pc0) ml none (Cond.code y (xbyt pc0) ml none :: xTT) { frames := d1 + 8, cells := mc, slots := ms, locals := 60 * d1 + 200 } mc ms 0 := callB_of 0 hts hG rfl rfl rfl (hts _ (tt_mem hini rfl)) (hts _ (tt_mem hlk rfl)) ⟨hn1, hn2, hnp⟩ hroom
    exact k_back (va_runI (As := []) (rest := rest) (b := b) ⟨hx, hb, hml, hown, hts⟩ hMet ⟨hCB, hnm, hts _ (tt_mem hins rfl)⟩ ⟨hbl, fun U hU hW => ⟨rfl, hpre U hU hW⟩⟩ rfl rfl hls rfl hwid hd ⟨hc, hsl⟩) hDy.2.2.1 kk
  | succ nest =>
    have hCB : va_CN R s args (xcn own) idx y "RouteStrides" (xbyt pc0) ml none (Cond.code y (xbyt pc0) ml none :: xTT) { frames := d1 + 8, cells := mc, slots := ms, locals := 60 * d1 + 200 } mc ms 0 := va_cnB 0 hts hG rfl rfl rfl (hst.2.2.2.2.2 _ _ _ (List.mem_of_getElem? hlk)) (hts _ (tt_mem hini rfl)) ⟨hn1, hn2, hnp⟩ hroom
    exact k_back (va_runIN (As := []) (rest := rest) (b := b) ⟨hx, hb, hml, hown, hts⟩ hMet ⟨hCB, hnm, hts _ (tt_mem hins rfl)⟩ ⟨hbl, fun U hU hW => ⟨rfl, hpre U hU hW⟩⟩ rfl rfl hls rfl hwid hd ⟨hc, hsl⟩) hDy.2.2.1 kk
end KRows
/-- what a run from one state to another means -/
def cOK (cA : Nat → ClassId) (D : va_G) (A : Nat → Prop) (Ls : Nat) (xs : Nat → Int32) (l : Launch) (N0 : Nat) (B : xM) (d k : Nat) (st res : cS) : Prop :=
  ∀ (G : xG) (p : Program) (e : Env) (R : Room) (s : State) (m : MethodId) (args : Array Value) (below : List Frame) (meth : Method) (c : Code) (Qf : State → Prop) (H : Heap) (locs : List Loc) (ls : Array Slot),
    kCx G cA D A Ls xs N0 k d p R s m args meth c → cIn G cA D A Ls xs B (kL k) s.heap H locs ls st.2.1 st.2.2.1 st.2.2.2.1 st.2.2.2.2.1 → res.2.2.2.2.2.1 ≤ R.cells → res.2.2.2.2.2.2 ≤ R.slots →
    (∀ (G2 : xG) (H2 : Heap) (locs2 : List Loc) (ls2 : Array Slot), cAg st.2.2.2.1.length G G2 → cIn G2 cA D A Ls xs B (kL k) s.heap H2 locs2 ls2 res.2.1 res.2.2.1 res.2.2.2.1 res.2.2.2.2.1 → W p l e R s m args below meth c H2 locs2 res.2.2.2.2.2.1 res.2.2.2.2.2.2 Qf (F0 m res.1 ls2 (res.2.2.1.map (mkV G2)))) →
    W p l e R s m args below meth c H locs st.2.2.2.2.2.1 st.2.2.2.2.2.2 Qf (F0 m st.1 ls (st.2.2.1.map (mkV G)))
theorem kL_at {k : Nat} {q : MethodName × Nat × Nat × Nat × Nat} (h : kts[k]? = some q) : kL k = q.2.1 := by
  unfold kL
  rw [h]
theorem lay_rv {n a z : Nat} (hn : 1 ≤ n) : (lay1 [((15, z, (a : Int)) : xV)]).length ≤ n := by
  show 1 ≤ n
  exact hn
theorem lay_cV {n sz a z : Nat} (ha : a < sz) : ∀ v ∈ lay [((15, z, (a : Int)) : xV)] n, v.1 = 9 ∨ cV sz v := by
  intro v hv
  have hv : v ∈ [((15, z, (a : Int)) : xV)] ++ List.replicate (n - 1) xU := hv
  rcases List.mem_append.mp hv with h | h
  · rw [List.mem_singleton.mp h]
    exact Or.inr ⟨by show (0 : Int) ≤ (a : Int); omega, by show (a : Int) < (sz : Int); omega⟩
  · rw [List.eq_of_mem_replicate h]; exact Or.inl rfl
/-- a constructor's contract out of its run -/
theorem k_met {cA : Nat → ClassId} {D : va_G} {A : Nat → Prop} {Ls : Nat} {xs : Nat → Int32} {l : Launch} {N0 : Nat} {B : xM} {k d a z mc ms stop : Nat} {q : MethodName × Nat × Nat × Nat × Nat} {G : xG} {SH SH1 SH2 : xSH} {P P1 : List cO} {L1 S1 : List xV} {Qm : xM → Prop} (hq : kts[k]? = some q) (hok : kokB k = true) (hA : ∀ q, N0 ≤ q → A q) (ha : a < SH.length)
    (h : cOK cA D A Ls xs l N0 B d k (0, lay [(15, z, (a : Int))] (kL k), [], SH, P, 0, 0) (stop, L1, S1, SH1, P1, mc, ms)) (hD : va_D A (xW SH G cA (cM B P))) (hM : okM SH (cM B P)) (hO : okO SH (cM B P)) (hPl : ∀ q ∈ P, q.2.1 < SH.length) (hS : xScr Ls xs (cM B P))
    (hend : ∀ (G2 : xG) (p : Program) (e : Env) (R : Room) (s : State) (m : MethodId) (below : List Frame) (meth : Method) (c : Code) (Qf : State → Prop) (H : Heap) (locs : List Loc) (ls : Array Slot), kCx G2 cA D A Ls xs N0 k d p R s m #[.ref (G.1 a)] meth c → mc ≤ R.cells → ms ≤ R.slots → cAg SH.length G G2 → cIn G2 cA D A Ls xs B (kL k) s.heap H locs ls L1 S1 SH1 P1 →
      (∀ (G3 : xG) (N : xM) (H2 : Heap) (locs2 : List Loc) (ls2 : Array Slot), cAg SH.length G G3 → Qm N → xDyn SH2 G3 cA D A Ls xs s.heap N H2 locs2 → W p l e R s m #[.ref (G.1 a)] below meth c H2 locs2 mc ms Qf (F0 m (kR k) ls2 [])) → W p l e R s m #[.ref (G.1 a)] below meth c H locs mc ms Qf (F0 m stop ls (S1.map (mkV G2)))) :
    Met l q.1 (Cond.code q.1 (xbyt q.2.2.1) q.2.1 none :: xTT) { frames := d + 8, cells := mc, slots := ms, locals := 60 * d + 200 } (va_Pc [.ref (G.1 a)] (kPre SH G cA D A Ls xs N0 (cM B P))) (kQc SH2 G cA D A Ls xs SH.length Qm) mc ms A := by
  have hk10 : k < 10 := lt_of_at hq
  have hret := List.all_eq_true.mp kret_all k (List.mem_range.mpr hk10)
  rw [hq] at hret
  have hret := of_decide_eq_true hret
  have hkl := kL_at hq
  have hok2 := hok
  obtain ⟨y, ml, pc0, pi, pk⟩ := q
  simp only [kokB, hq, Bool.and_eq_true, decide_eq_true_eq] at hok2
  obtain ⟨hcn, hcode, hini, hins, hpl, hn1, hn2, hnp, hnm, hm4, hm1⟩ := hok2
  have hm1 := Nat.le_of_ble_eq_true hm1
  refine Met.ofW (cc := xbyt pc0) (maxL := ml) (ret := none) hpl rfl ?_
  intro p e s m args below meth c s₁ Bd hml hv
  obtain ⟨rfl, hst, hax, hn0, hP0⟩ := hv
  have hts := atoms_spec (ws := Cond.code y (xbyt pc0) ml none :: xTT) Bd.pre
  have hown : s.vm.findClass y.cls = some m.cls := findClass_of_methodNamed Bd.named
  have hin : meth.name = "<init>" := ((name_of_methodNamed Bd.named Bd.method).1).trans hnm
  have hr := Bd.returns
  have hlocks := Bd.notSynchronized
  rw [lg_entry_eq]
  have hcx : ∀ G2 : xG, G2.2 = G.2 → kCx G2 cA D A Ls xs N0 k d p { frames := d + 8, cells := mc, slots := ms, locals := 60 * d + 200 } s m #[.ref (G.1 a)] meth c := fun G2 hg => ⟨_, hq, Bd.exec, Bd.bytes, hml, by rw [hcn]; exact hown, fun w hw => hts w (List.mem_cons_of_mem _ hw), xStat_g hg hst, Nat.le_refl _, Nat.le_refl _, hin, hax, hn0⟩
  have hLR := LR_entry (G := G) (as := [((15, z, (a : Int)) : xV)]) (n := ml) (lay_rv hm1)
  have hkl : kL k = ml := hkl
  rw [hkl] at h
  refine h G p e _ s m _ below meth c _ s.heap [] _ (hcx G rfl) ⟨⟨hP0, hD, va_S.rf, hM, hS⟩, hO, hPl, hLR, ?_, lay_cV ha, fun _ hv => by cases hv⟩ (Nat.le_refl _) (Nat.le_refl _) ?_
  · rw [hkl]; exact lay_len (lay_rv hm1)
  · intro G2 H2 locs2 ls2 hg hin2
    refine hend G2 p e _ s m below meth c _ H2 locs2 ls2 (hcx G2 hg.1) (Nat.le_refl _) (Nat.le_refl _) hg hin2 ?_
    intro G3 N H3 locs3 ls3 hg3 hN hdy
    exact W.vret Bd.exec Bd.bytes hr (fun t ht hW => ⟨⟨G3, N, rfl, hg3, hN, by rw [ht]; exact hdy.1, hdy.2.1, hdy.2.2.2.1, hdy.2.2.2.2⟩, hdy.2.2.1.F ht⟩) hdy.2.2.1.2.2 hret

def xcc (k : Nat) (t : xT) : ByteArray := if k = kLaw_law then code else xbyt t.2.2.2.2.2.1
def xStr (G : xG) (A : Nat → Prop) (s : State) (H : Heap) : Prop := ∃ qv : Nat, vk_S 1 [7] [[115, 116, 114, 105, 100, 101, 115]] (fun _ => G.2.1) (fun _ => qv) A s H ∧ vk_R "RouteStrides$Tape" 56 "strides" G.2.1 s ∧ vk_R "RouteStridesModel" 375 "strides" G.2.1 s ∧ va_Z "java/lang/String" "COMPACT_STRINGS" "Z" (.int 1) A s H ∧ va_Zq "jdk/internal/util/Preconditions" "SIOOBE_FORMATTER" "Ljava/util/function/BiFunction;" A s H
def xNs (s : State) : Prop := ∀ (own idx : Nat) (y : MethodName), Cond.methodLinkNest (xcn own) idx y "RouteStrides" ∈ lw_tbl → va_Nw (.methodLinkNest (xcn own) idx y "RouteStrides") s
def xStat (G : xG) (cA : Nat → ClassId) (D : va_G) (A : Nat → Prop) (Ls : Nat) (xs : Nat → Int32) (s : State) : Prop := va_K D xcl (xtys cA) s ∧ xStr G A s s.heap ∧ va_X G.2.2 Ls xs s s.heap ∧ G.2.2 < s.heap.size ∧ ¬ A G.2.2 ∧ xNs s
def xScr (Ls : Nat) (xs : Nat → Int32) (M : xM) : Prop := M (-1) 0 = (Ls : Int) ∧ Ls ≤ 3072 ∧ ∀ j : Nat, j < Ls → M (-1) ((j : Int) + 1) = (xs j).toInt
def xDyn (SH : xSH) (G : xG) (cA : Nat → ClassId) (D : va_G) (A : Nat → Prop) (Ls : Nat) (xs : Nat → Int32) (H0 : Heap) (M : xM) (H : Heap) (locs : List Loc) : Prop := va_P D xcl (xW SH G cA M) H ∧ va_D A (xW SH G cA M) ∧ va_S A H0 H locs ∧ okM SH M ∧ xScr Ls xs M
def xCx (G : xG) (cA : Nat → ClassId) (D : va_G) (A : Nat → Prop) (Ls : Nat) (xs : Nat → Int32) (k : Nat) (t : xT) (d : Nat) (p : Program) (R : Room) (s : State) (m : MethodId) (args : Array Value) (meth : Method) (c : Code) (cells slots : Nat) : Prop :=
  mts[k]? = some t ∧ p.tables.exec = Jvm.exec ∧ c.code = xcc k t ∧ c.maxLocals = t.2.2.2.1 ∧ s.vm.findClass (xcn t.1) = some m.cls ∧ (∀ w ∈ xTT, w.before args s = true) ∧ xStat G cA D A Ls xs s ∧ d + 8 ≤ R.frames ∧ 60 * d + 200 ≤ R.locals ∧ cells ≤ R.cells ∧ slots ≤ R.slots
def xst (G : xG) (v : xV) : List Value := match v.1 with
  | 9 => []
  | _ => [mkV G v]
def xRet (r : Nat) (v : xV) (ins : Instr) : Prop := match v.1 with
  | 0 => ins = .ireturn ∧ (r = 0 ∨ (r = 1 ∧ (v.2.2 = 0 ∨ v.2.2 = 1)))
  | 1 => ins = .lreturn ∧ r = 2
  | 9 => ins = .return_ ∧ r = 3
  | _ => False
def xHd (SH : xSH) (G : xG) (cA : Nat → ClassId) (D : va_G) (A : Nat → Prop) (Ls : Nat) (xs : Nat → Int32) (l : Launch) (k : Nat) (t : xT) (p : Program) (e : Env) (R : Room) (s : State) (m : MethodId) (args : Array Value) (below : List Frame) (meth : Method) (c : Code) (cells slots : Nat) (Q : xQ) (Qf : State → Prop) : Prop :=
  ∀ (v : xV) (N : xM) (H : Heap) (locs : List Loc) (pc : Nat) (ls : Array Slot) (ins : Instr), Q v N → okV SH v → xDyn SH G cA D A Ls xs s.heap N H locs → decode (xcc k t) pc = .ok (ins, 1) → xRet (bol t.2.2.2.2.1) v ins → W p l e R s m args below meth c H locs cells slots Qf (F0 m pc ls (xst G v))
def xSim (SH : xSH) (G : xG) (cA : Nat → ClassId) (D : va_G) (A : Nat → Prop) (Ls : Nat) (xs : Nat → Int32) (l : Launch) : xP := fun d k pc L S M Q =>
  ∀ (t : xT) (p : Program) (e : Env) (R : Room) (s : State) (m : MethodId) (args : Array Value) (below : List Frame) (meth : Method) (c : Code) (cells slots : Nat) (Qf : State → Prop), xCx G cA D A Ls xs k t d p R s m args meth c cells slots → xHd SH G cA D A Ls xs l k t p e R s m args below meth c cells slots Q Qf →
  ∀ (H : Heap) (locs : List Loc) (ls : Array Slot), xDyn SH G cA D A Ls xs s.heap M H locs → LR G ls L → L.length = t.2.2.2.1 → (∀ v ∈ L, okV SH v) → (∀ v ∈ S, okV SH v) → W p l e R s m args below meth c H locs cells slots Qf (F0 m pc ls (S.map (mkV G)))
theorem xSim_mono {SH : xSH} {G : xG} {cA : Nat → ClassId} {D : va_G} {A : Nat → Prop} {Ls : Nat} {xs : Nat → Int32} {l : Launch} : xMono (xSim SH G cA D A Ls xs l) := by
  intro d k pc L S M Q Q2 hq h t p e R s m args below meth c cells slots Qf hC hH
  exact h t p e R s m args below meth c cells slots Qf hC (fun v N H locs pc ls ins hv => hH v N H locs pc ls ins (hq v N hv))
theorem okc {SH : xSH} {v : xV} {S : List xV} (hv : okV SH v) (hS : ∀ w ∈ S, okV SH w) : ∀ w ∈ v :: S, okV SH w := by
  intro w hw
  rcases List.mem_cons.mp hw with q | q
  · rw [q]; exact hv
  · exact hS w q
theorem okt {SH : xSH} {v : xV} {S : List xV} (hS : ∀ w ∈ v :: S, okV SH w) : okV SH v ∧ ∀ w ∈ S, okV SH w := ⟨hS v List.mem_cons_self, fun w h => hS w (List.mem_cons_of_mem _ h)⟩
theorem r32_i {c : Int} (h : r32 c = true) : i32 c := by
  unfold r32 at h
  simp only [Bool.and_eq_true, decide_eq_true_eq] at h
  exact h
theorem nat_of {a : Int} (h : 0 ≤ a) : ∃ b : Nat, a = (b : Int) := ⟨a.toNat, (Int.toNat_of_nonneg h).symm⟩
theorem okV_mem {SH : xSH} {L : List xV} {i : Nat} {v : xV} (h : ∀ w ∈ L, okV SH w) (hi : L[i]? = some v) : okV SH v := h v (List.mem_of_getElem? hi)
theorem xScr_up {Ls : Nat} {xs : Nat → Int32} {M : xM} {a : Nat} {i v : Int} (h : xScr Ls xs M) : xScr Ls xs (up M a i v) := by
  have e : ∀ j : Int, up M a i v (-1) j = M (-1) j := fun j => up_ne (by omega)
  unfold xScr
  simp only [e]
  exact h
theorem sw_in {nx : Nat → Prop} {x : Int} {d : Nat} : ∀ {i : Nat} {ts : List Nat} (j : Nat) (tg : Nat), ts[j]? = some tg → x = ((i + j : Nat) : Int) → sw nx x d i ts → nx tg
  | _, [], _, _, h, _, _ => by simp at h
  | i, t :: ts, 0, tg, h, hx, hs => by
    simp at h
    subst h
    exact hs.1 (by rw [hx]; simp)
  | i, t :: ts, j + 1, tg, h, hx, hs => by
    simp at h
    exact sw_in (i := i + 1) (ts := ts) j tg h (by rw [hx]; congr 1; omega) (hs.2 (by rw [hx]; omega))
theorem sw_out {nx : Nat → Prop} {x : Int} {d : Nat} : ∀ {i : Nat} {ts : List Nat}, (x < (i : Int) ∨ ((i + ts.length : Nat) : Int) ≤ x) → sw nx x d i ts → nx d
  | _, [], _, hs => hs
  | i, t :: ts, h, hs => by
    refine sw_out (i := i + 1) (ts := ts) ?_ (hs.2 ?_)
    · rcases h with h | h
      · left; omega
      · right
        have : (t :: ts).length = ts.length + 1 := rfl
        rw [this] at h
        omega
    · intro e
      have : (t :: ts).length = ts.length + 1 := rfl
      rw [this] at h
      omega
theorem xfl_len (G : xG) (M : xM) (a ci : Nat) : (xfl G M a ci).length = (xfs.getD ci []).length := by
  unfold xfl
  rw [List.length_map, List.length_range]
theorem xfl_at {G : xG} {M : xM} {a ci k : Nat} (h : k < (xfs.getD ci []).length) : (xfl G M a ci)[k]? = some (xfv G M a k (xfld ci k)) := by
  unfold xfl
  rw [List.getElem?_map, List.getElem?_range h]
  rfl
theorem xfl_up {G : xG} {M : xM} {a ci k : Nat} {x : Int} {v : Value} (h : k < (xfs.getD ci []).length) (hv : xfv G (up M a k x) a k (xfld ci k) = v) : xfl G (up M a k x) a ci = (xfl G M a ci).set k v := by
  apply List.ext_getElem?
  intro j
  by_cases hj : k = j
  · subst hj
    rw [xfl_at h, List.getElem?_set_self (by rw [xfl_len]; exact h), hv]
  · rw [List.getElem?_set_ne hj]
    by_cases hl : j < (xfs.getD ci []).length
    · rw [xfl_at hl, xfl_at hl]
      have e : up M a k x a j = M a j := up_off (fun q => hj (by omega))
      unfold xfv
      simp only [e]
    · rw [List.getElem?_eq_none (by rw [xfl_len]; omega), List.getElem?_eq_none (by rw [xfl_len]; omega)]
theorem fget_mk {G : xG} {M : xM} {b k kind n : Nat} {off : Int} (h : kind = 0 ∨ kind = 1 ∨ [2, 3, 4, 5, 6, 7, 12].contains kind = true) : xfv G M b k (kind, n, off) = mkV G (fget M b k kind n off) := by
  rcases h with rfl | rfl | h
  · rfl
  · rfl
  · simp at h
    rcases h with rfl | rfl | rfl | rfl | rfl | rfl | rfl <;> rfl
theorem fget_ok {SH : xSH} {M : xM} {b ci k kind n : Nat} {off : Int} (hM : okM SH M) (hb : SH[b]? = some (2, ci)) (hk : k < (xfs.getD ci []).length) (hf : xfld ci k = (kind, n, off)) (h : kind = 0 ∨ kind = 1 ∨ [2, 3, 4, 5, 6, 7, 12].contains kind = true) : okV SH (fget M b k kind n off) := by
  have h1 : okC SH M b (2, ci) := hM b (2, ci) hb
  have h2 := h1 k hk
  rw [hf] at h2
  rcases h with rfl | rfl | h
  · exact h2
  · exact h2
  · simp at h
    rcases h with rfl | rfl | rfl | rfl | rfl | rfl | rfl <;> exact h2
theorem kt_kind {f : Nat × Nat × Int} {ty : FieldType} (h : ktB f ty = true) : f.1 = 0 ∨ f.1 = 1 ∨ [2, 3, 4, 5, 6, 7, 12].contains f.1 = true := by
  unfold ktB at h
  split at h
  · left; assumption
  · right; left; assumption
  · right; right; exact h
theorem okC_put {SH : xSH} {M : xM} {b ci k : Nat} {x : Int} (hC : okC SH M b (2, ci)) (hx : match (xfld ci k).1 with
    | 0 => i32 x
    | 1 => i64 x
    | _ => False) : okC SH (up M b k x) b (2, ci) := by
  intro j hj
  have h1 := hC j hj
  by_cases e : j = k
  · subst e
    rw [up_same]
    revert hx h1
    cases hf : xfld ci j with
    | mk kd r =>
      match kd with
      | 0 => exact fun _ hx => hx
      | 1 => exact fun _ hx => hx
      | t + 2 => exact fun _ hx => hx.elim
  · have e2 : up M b k x b j = M b j := up_off (fun q => e (by omega))
    rw [e2]
    exact h1
theorem okC_arr {SH : xSH} {M : xM} {b n t : Nat} {j x : Int} (ht : t = 3 ∨ t = 5 ∨ t = 12) (hC : okC SH M b (t, n)) (hx : i32 x) : okC SH (up M b j x) b (t, n) := by
  rcases ht with rfl | rfl | rfl
  all_goals
    intro q hq
    have h1 := hC q hq
    by_cases e : (q : Int) = j
    · rw [← e, up_same]; exact hx
    · rw [up_off e]; exact h1
theorem okC_arrL {SH : xSH} {M : xM} {b n : Nat} {j x : Int} (hC : okC SH M b (4, n)) (hx : i64 x) : okC SH (up M b j x) b (4, n) := by
  intro q hq
  have h1 := hC q hq
  by_cases e : (q : Int) = j
  · rw [← e, up_same]; exact hx
  · rw [up_off e]; exact h1
theorem okC_arrT {SH : xSH} {M : xM} {b n : Nat} {j x : Int} (hC : okC SH M b (6, n)) (hx : okV SH (xO xTab x)) : okC SH (up M b j x) b (6, n) := by
  intro q hq
  have h1 := hC q hq
  by_cases e : (q : Int) = j
  · rw [← e, up_same]; exact hx
  · rw [up_off e]; exact h1
theorem j_in {j : Int} {n : Nat} (h : 0 ≤ j ∧ j < (n : Int)) : ∃ q : Nat, j = (q : Int) ∧ q < n := by
  obtain ⟨q, rfl⟩ := nat_of h.1
  exact ⟨q, rfl, by omega⟩
theorem n32' {q : Nat} (h : i32 (q : Int)) : (Int32.ofInt (q : Int)).toNatClampNeg = q := by
  rw [n32 (by omega) h]
  rfl
theorem mn_32 {x y : Int} (hx : i32 x) (hy : i32 y) : Int32.ofInt (mn x y) = if Int32.ofInt y < Int32.ofInt x then Int32.ofInt y else Int32.ofInt x := by
  unfold mn
  by_cases h : y < x
  · rw [if_pos h, if_pos ((l32 hy hx).mpr h)]
  · rw [if_neg h, if_neg (fun q => h ((l32 hy hx).mp q))]
theorem mn_64 {x y : Int} (hx : i64 x) (hy : i64 y) : Int64.ofInt (mn x y) = if Int64.ofInt y < Int64.ofInt x then Int64.ofInt y else Int64.ofInt x := by
  unfold mn
  by_cases h : y < x
  · rw [if_pos h, if_pos ((l64 hy hx).mpr h)]
  · rw [if_neg h, if_neg (fun q => h ((l64 hy hx).mp q))]
theorem mx_64 {x y : Int} (hx : i64 x) (hy : i64 y) : Int64.ofInt (mx x y) = if Int64.ofInt y < Int64.ofInt x then Int64.ofInt x else Int64.ofInt y := by
  unfold mx
  by_cases h : y < x
  · rw [if_pos h, if_pos ((l64 hy hx).mpr h)]
  · rw [if_neg h, if_neg (fun q => h ((l64 hy hx).mp q))]
theorem mn_i {P : Int → Prop} {x y : Int} (hx : P x) (hy : P y) : P (mn x y) := by
  unfold mn; split
  · exact hy
  · exact hx
theorem mx_i {P : Int → Prop} {x y : Int} (hx : P x) (hy : P y) : P (mx x y) := by
  unfold mx; split
  · exact hx
  · exact hy

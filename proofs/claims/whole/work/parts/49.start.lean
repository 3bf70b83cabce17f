/-! THE LAW'S START: its world, its first sixteen bytes. -/
theorem w_s1 : Cond.stringRef "RouteStrides$Tape" 56 "strides" ∈ lw_tbl := List.mem_of_getElem? (i := 594) (by decide +kernel)
theorem w_s2 : Cond.stringRef "RouteStridesModel" 375 "strides" ∈ lw_tbl := List.mem_of_getElem? (i := 1550) (by decide +kernel)
theorem w_c1 : Cond.laysStatic "java/lang/String" "COMPACT_STRINGS" "Z" ∈ lw_tbl := List.mem_of_getElem? (i := 604) (by decide +kernel)
theorem w_c2 : Cond.laysStatic "jdk/internal/util/Preconditions" "SIOOBE_FORMATTER" "Ljava/util/function/BiFunction;" ∈ lw_tbl := List.mem_of_getElem? (i := 620) (by decide +kernel)
theorem w_i1 : Cond.initialized "java/lang/String" ∈ lw_tbl := List.mem_of_getElem? (i := 140) (by decide +kernel)
theorem w_i2 : Cond.initialized "jdk/internal/util/Preconditions" ∈ lw_tbl := List.mem_of_getElem? (i := 142) (by decide +kernel)
theorem w_l1 : Cond.classLink "RouteStridesLaw" 7 RX8 ∈ xTT := tt_mem (i := 146) (by decide +kernel) rfl
theorem w_l2 : Cond.classLink "RouteStridesLaw" 10 RX9 ∈ xTT := tt_mem (i := 1137) (by decide +kernel) rfl
theorem w_n1 : Cond.initialized RX8 ∈ xTT := tt_mem (i := 129) (by decide +kernel) rfl
theorem w_n2 : Cond.initialized RX9 ∈ xTT := tt_mem (i := 138) (by decide +kernel) rfl
theorem w_in0 : Cond.instantiable RX0 2 ∈ xTT := tt_mem (i := 404) (by decide +kernel) rfl
theorem w_in1 : Cond.instantiable RX1 7 ∈ xTT := tt_mem (i := 368) (by decide +kernel) rfl
theorem w_in2 : Cond.instantiable RX2 3 ∈ xTT := tt_mem (i := 351) (by decide +kernel) rfl
theorem w_in3 : Cond.instantiable RX3 18 ∈ xTT := tt_mem (i := 280) (by decide +kernel) rfl
theorem w_in4 : Cond.instantiable RX4 3 ∈ xTT := tt_mem (i := 419) (by decide +kernel) rfl
theorem w_in5 : Cond.instantiable RX5 10 ∈ xTT := tt_mem (i := 230) (by decide +kernel) rfl
theorem w_in6 : Cond.instantiable RX6 8 ∈ xTT := tt_mem (i := 176) (by decide +kernel) rfl
theorem w_in7 : Cond.instantiable RX7 4 ∈ xTT := tt_mem (i := 155) (by decide +kernel) rfl
theorem w_in8 : Cond.instantiable RX8 17 ∈ xTT := tt_mem (i := 147) (by decide +kernel) rfl
theorem w_in9 : Cond.instantiable RX9 52 ∈ xTT := tt_mem (i := 1138) (by decide +kernel) rfl
theorem k_known {s : State} {args : Array Value} (hts : ∀ w ∈ lw_tbl, w.before args s = true) : ∀ ci : Nat, ∃ r : ClassId × (Nat → Nat), ∀ q : vw_C, xcl[ci]? = some q → u_Kn s q.1 q.2.1 q.2.2 r.1 r.2 := by
  have key : ∀ (ci : Nat) (q : vw_C), xcl[ci]? = some q → Cond.instantiable q.1 q.2.2 ∈ xTT → ∃ r : ClassId × (Nat → Nat), ∀ q : vw_C, xcl[ci]? = some q → u_Kn s q.1 q.2.1 q.2.2 r.1 r.2 := by
    intro ci q hq hi
    obtain ⟨c, iS, h⟩ := u_known (C := q.1) (T := q.2.1) (N := q.2.2) (n := q.2.2) hts (fun w hw => tt_tbl ((xcl_ok ci q hq).2.1 w hw)) (hts _ (tt_tbl hi))
    exact ⟨(c, iS), fun q2 h2 => by rw [hq] at h2; cases h2; exact h⟩
  intro ci
  match ci with
  | 0 => exact key 0 _ rfl w_in0
  | 1 => exact key 1 _ rfl w_in1
  | 2 => exact key 2 _ rfl w_in2
  | 3 => exact key 3 _ rfl w_in3
  | 4 => exact key 4 _ rfl w_in4
  | 5 => exact key 5 _ rfl w_in5
  | 6 => exact key 6 _ rfl w_in6
  | 7 => exact key 7 _ rfl w_in7
  | 8 => exact key 8 _ rfl w_in8
  | 9 => exact key 9 _ rfl w_in9
  | n + 10 => exact ⟨(0, fun _ => 0), fun q hq => by simp [xcl] at hq⟩
theorem k_arr {s : State} {args : Array Value} {ty : FieldType} (h : (Cond.arrayClass ty).before args s = true) (hno : ∀ C, ty ≠ .object C) : ∃ c : ClassId, ArrOfT s c ty ∧ va_RA s c ty := by
  obtain ⟨c, k, comp, h1, h2, h3⟩ := Cond.arrayClass_spec h
  refine ⟨c, fun N z => ⟨(fun k h => by cases h), k, h2, comp, h3⟩, ?_⟩
  cases ty <;> first | exact h1 | exact absurd rfl (hno _)
set_option maxRecDepth 20000 in
theorem k_start {s : State} {b L : Nat} {xs : Nat → Int32} (hts : ∀ w ∈ lw_tbl, w.before #[Value.ref b] s = true) (hgv : (Jvm.Cond.and given_1 narrow_1).before #[Value.ref b] s = true) (hX : va_X b L xs s s.heap) (hbl : b < s.heap.size) :
    ∃ (G : xG) (cA : Nat → ClassId) (D : va_G), G.2.2 = b ∧ xStat G cA D (fun q => s.heap.size ≤ q) L xs s ∧ kAux s := by
  obtain ⟨D0, hD0⟩ := Classical.axiomOfChoice (k_known hts)
  obtain ⟨c3, a3, r3⟩ := k_arr (hts _ (tt_tbl w_ai)) (fun _ h => by cases h)
  obtain ⟨c4, a4, r4⟩ := k_arr (hts _ (tt_tbl w_al)) (fun _ h => by cases h)
  obtain ⟨c5, a5, r5⟩ := k_arr (hts _ (tt_tbl w_az)) (fun _ h => by cases h)
  obtain ⟨c12, a12, r12⟩ := k_arr (hts _ (tt_tbl w_ab)) (fun _ h => by cases h)
  obtain ⟨p6, c6, k6, h61, -, h62, h63, h64⟩ := Cond.arrayOver_spec (hts _ w_ov)
  obtain ⟨p7, c7, k7, h71, -, h72, h73, h74⟩ := Jvm.Stand.arrayOver_specB (hts _ w_ol)
  have hs := flat_of_before _ hgv
  have hA : ∀ a : Nat, a < s.heap.size → ¬ (fun q : Nat => s.heap.size ≤ q) a := fun a h => Nat.not_le.mpr h
  obtain ⟨adK, adV, hS, hev⟩ := vk_Sof (args := #[Value.ref b]) (s := s) (N := 1) (tm := fun _ => Term.string "RouteStrides$Tape" 56) (len := [7]) (byt := [[115, 116, 114, 105, 100, 101, 115]]) (A := fun q : Nat => s.heap.size ≤ q)
    (fun i hi => by rw [show i = 0 by omega]; decide) (fun i hi => hs _ (by decide +kernel)) (fun i hi => hs _ (by decide +kernel)) (fun i hi => hs _ (by decide +kernel)) (fun i hi => by rw [show i = 0 by omega]; exact hs _ (by decide +kernel))
    (fun i hi j hj => by
      rw [show i = 0 by omega] at hj ⊢
      have hj : j < 7 := hj
      rcases (show j = 0 ∨ j = 1 ∨ j = 2 ∨ j = 3 ∨ j = 4 ∨ j = 5 ∨ j = 6 by omega) with rfl | rfl | rfl | rfl | rfl | rfl | rfl <;> exact hs _ (by decide +kernel))
    (fun i j hi hj hij => absurd (show i = j by omega) hij) hA
  have hev0 := hev 0 (by omega)
  have hev2 := va_eqR (u := Term.string "RouteStridesModel" 375) (hs _ (by decide +kernel)) hev0
  refine ⟨(fun _ => 0, adK 0, b), fun t => match t with
    | 3 => c3
    | 4 => c4
    | 5 => c5
    | 6 => c6
    | 7 => c7
    | _ => c12, (fun k => (D0 k).1, fun k => (D0 k).2), rfl, ⟨⟨fun k q hq => hD0 k q hq, fun k q hq => ?_⟩, ⟨adV 0, ⟨fun i hi => ?_, fun i j hi hj _ => by omega⟩, vk_R.of (hts _ w_s1) hev0, vk_R.of (hts _ w_s2) hev2, va_Zof (hts _ w_c1) (hts _ w_i1) (va_eqt (hs _ (by decide +kernel))) hA, va_Zqof (hts _ w_c2) (hts _ w_i2) (hs _ (by decide +kernel)) hA⟩, hX, hbl, Nat.not_le.mpr hbl, fun own idx y hm => va_Nw.of rfl (hts _ hm)⟩, va_AO.of (hts _ w_ov), hts _ w_ol⟩
  · match k, hq with
    | 0, hq => cases hq; exact ⟨a3, r3⟩
    | 1, hq => cases hq; exact ⟨a4, r4⟩
    | 2, hq => cases hq; exact ⟨a5, r5⟩
    | 3, hq => cases hq; exact ⟨fun N z => ⟨(fun k h => by cases h), k6, h62, p6, h63⟩, ⟨k6, p6, h62, h63, h61, h64⟩⟩
    | 4, hq => cases hq; exact ⟨fun N z => ⟨(fun k h => by cases h), k7, h72, p7, h73⟩, h74⟩
    | 5, hq => cases hq; exact ⟨a12, r12⟩
    | k + 6, hq => simp [xtys] at hq
  · have h0 := hS.1 0 (by omega)
    rw [show i = 0 by omega]
    exact h0
/-- the memory ahead of all objects: the script -/
def bM (Ls : Nat) (xs : Nat → Int32) : xM := fun b j => if b = -1 then (if j = 0 then (Ls : Int) else (xs (j - 1).toNat).toInt) else 0
theorem bM_0 {Ls : Nat} {xs : Nat → Int32} : ∀ b j : Nat, bM Ls xs b j = 0 := fun b j => if_neg (by omega)
def oG (o : Option cS) : cS := o.getD (0, [], [], [], [], 0, 0)
theorem oG_ok {o : Option cS} (h : o.isSome = true) : o = some (oG o) := by
  cases o with
  | none => cases h
  | some r => rfl
def rsR : cS := oG (cRun 400 2 8 (kR 8) (0, lay [rV 0] (kL 8), [], [(13, 8)], [], 0, 0))
def rsSH : xSH := rsR.2.2.2.1
def rsP : List cO := rsR.2.2.2.2.1
def mP0 : List cO := (2, 18, 0, 0) :: (2, 17, 0, 0) :: rsP
def mSH0 : xSH := cDone ((rsSH.set 17 (6, 10)).set 18 (6, 2)) mP0 0
def moR : cS := oG (cRun 300 1301 9 271 (0, lay [rV 198] (kL 9), [], mSH0 ++ [(13, 9)], mP0, 0, 0))
def mP : List cO := moR.2.2.2.2.1
def mSH : xSH := cDone moR.2.2.2.1 mP 198
def tabB (SH : xSH) (P : List cO) (a n : Nat) : Bool := decide (SH[a]? = some (14, n)) && (List.range n).all fun j => decide (0 < rd P a j) && decide (SH[(rd P a j - 1).toNat]? = some (2, 6))
set_option maxRecDepth 100000 in
theorem rs_eq : cRun 400 2 8 (kR 8) (0, lay [rV 0] (kL 8), [], [(13, 8)], [], 0, 0) = some rsR := oG_ok (by decide +kernel)
set_option maxRecDepth 100000 in
theorem rs_b : (decide (rsR.1 = kR 8) && (decide (rsR.2.2.1 = []) && (Nat.ble rsR.2.2.2.2.2.1 1000 && (Nat.ble rsR.2.2.2.2.2.2 200000 && (tabB rsSH rsP 17 10 && (tabB (rsSH.set 17 (6, 10)) ((2, 17, 0, 0) :: rsP) 18 2 && (Nat.beq mSH0.length 198 && mP0.all fun q => Nat.blt q.2.1 198))))))) = true := by decide +kernel
set_option maxRecDepth 100000 in
theorem mo_eq : cRun 300 1301 9 271 (0, lay [rV 198] (kL 9), [], mSH0 ++ [(13, 9)], mP0, 0, 0) = some moR := oG_ok (by decide +kernel)
def fSH : xSH := [(2, 8), (2, 7), (3, 400), (2, 6), (4, 60), (3, 60), (3, 60), (3, 60), (3, 60), (3, 16), (2, 6), (4, 60), (3, 60), (3, 60), (3, 60), (3, 60), (3, 16), (6, 10), (6, 2), (2, 5), (4, 121), (4, 121), (3, 121), (3, 121), (4, 60), (3, 60), (3, 33), (2, 5), (4, 121), (4, 121), (3, 121), (3, 121), (4, 60), (3, 60), (3, 33), (2, 3), (4, 901), (3, 901), (4, 901), (4, 901), (3, 901), (3, 901), (3, 16), (3, 902), (3, 2837), (3, 2837), (3, 901), (3, 17), (3, 17), (3, 16), (2, 3), (4, 901), (3, 901), (4, 901), (4, 901), (3, 901), (3, 901), (3, 16), (3, 902), (3, 2837), (3, 2837), (3, 901), (3, 17), (3, 17), (3, 16), (2, 2), (3, 901), (3, 64), (3, 901), (2, 1), (4, 60), (3, 60), (3, 60), (4, 3723), (3, 3723), (2, 0), (4, 33), (7, 33), (4, 17), (4, 17), (4, 17), (4, 17), (4, 17), (4, 17), (4, 17), (4, 17), (4, 17), (4, 17), (4, 17), (4, 17), (4, 17), (4, 17), (4, 17), (4, 17), (4, 17), (4, 17), (4, 17), (4, 17), (4, 17), (4, 17), (4, 17), (4, 17), (4, 17), (4, 17), (4, 17), (4, 17), (4, 17), (4, 17), (4, 17), (4, 17), (4, 17), (2, 4), (4, 64), (3, 64), (2, 6), (4, 60), (3, 60), (3, 60), (3, 60), (3, 60), (3, 16), (2, 6), (4, 60), (3, 60), (3, 60), (3, 60), (3, 60), (3, 16), (2, 6), (4, 60), (3, 60), (3, 60), (3, 60), (3, 60), (3, 16), (2, 6), (4, 60), (3, 60), (3, 60), (3, 60), (3, 60), (3, 16), (2, 6), (4, 60), (3, 60), (3, 60), (3, 60), (3, 60), (3, 16), (2, 6), (4, 60), (3, 60), (3, 60), (3, 60), (3, 60), (3, 16), (2, 6), (4, 60), (3, 60), (3, 60), (3, 60), (3, 60), (3, 16), (2, 6), (4, 60), (3, 60), (3, 60), (3, 60), (3, 60), (3, 16), (2, 6), (4, 60), (3, 60), (3, 60), (3, 60), (3, 60), (3, 16), (2, 6), (4, 60), (3, 60), (3, 60), (3, 60), (3, 60), (3, 16), (2, 6), (4, 60), (3, 60), (3, 60), (3, 60), (3, 60), (3, 16), (2, 6), (4, 60), (3, 60), (3, 60), (3, 60), (3, 60), (3, 16), (2, 9), (3, 259), (3, 2590), (3, 518), (5, 2), (3, 2), (4, 248), (3, 248), (3, 2), (3, 32), (3, 34), (4, 124), (3, 124), (3, 2000), (4, 2000), (3, 18), (3, 64), (3, 64), (3, 259), (4, 64), (3, 64), (3, 24), (12, 400), (4, 64), (3, 64), (3, 64), (3, 2000), (3, 128000), (4, 128), (3, 128), (3, 128), (3, 33), (3, 561)]
set_option maxRecDepth 100000 in
theorem mo_b : (decide (moR.1 = 271) && (decide (moR.2.1 = [rV 198]) && (decide (moR.2.2.1 = []) && (Nat.ble moR.2.2.2.2.2.1 1000 && (Nat.ble moR.2.2.2.2.2.2 200000 && decide (mSH = fSH)))))) = true := by decide +kernel

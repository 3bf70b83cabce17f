theorem mem_at {α : Type} {l : List α} {i : Nat} {a : α} (h : l[i]? = some a) : a ∈ l := List.mem_of_getElem? h
theorem xbyt_at {pos : Nat} {y : MethodName} {n : Nat} {r : Option FieldType} (h : (match lw_tbl[pos]? with
    | some (.code y2 _ n2 r2) => decide (y2 = y) && (decide (n2 = n) && decide (r2 = r))
    | _ => false) = true) : lw_tbl[pos]? = some (Cond.code y (xbyt pos) n r) := by
  unfold xbyt
  cases hl : lw_tbl[pos]? with
  | none => rw [hl] at h; cases h
  | some w =>
    rw [hl] at h
    cases w <;> first | (cases h; done) | skip
    simp only [Bool.and_eq_true, decide_eq_true_eq] at h
    obtain ⟨e1, e2, e3⟩ := h
    subst e1; subst e2; subst e3
    rfl
theorem good_cons {w : Cond} (h : w ∈ xTT) : GoodIn xTT (w :: xTT) := fun v hv => by
  rcases List.mem_cons.mp hv with e | e
  · rw [e]; exact tt_good _ h
  · exact tt_good v e
def yJ_coder : MethodName := ⟨"java/lang/String", "coder", "()B"⟩
def cJ_coder : ByteArray := xbyt 602
theorem mJ_coder : Cond.code yJ_coder cJ_coder 1 (some .byte) ∈ xTT := tt_mem (i := 602) (xbyt_at (by decide +kernel)) rfl
theorem dJ_coder_0 : decode cJ_coder 0 = .ok (.getstatic 38, 3) := by decide +kernel
theorem dJ_coder_3 : decode cJ_coder 3 = .ok (.ifCond .eq 10, 3) := by decide +kernel
theorem dJ_coder_6 : decode cJ_coder 6 = .ok (.aload_n 0, 1) := by decide +kernel
theorem dJ_coder_7 : decode cJ_coder 7 = .ok (.getfield 15, 3) := by decide +kernel
theorem dJ_coder_10 : decode cJ_coder 10 = .ok (.goto 4, 3) := by decide +kernel
theorem dJ_coder_13 : decode cJ_coder 13 = .ok (.iconst 1, 1) := by decide +kernel
theorem dJ_coder_14 : decode cJ_coder 14 = .ok (.ireturn, 1) := by decide +kernel
def wJ_coder : List Cond := Cond.code yJ_coder cJ_coder 1 (some .byte) :: xTT
theorem gJ_coder : GoodIn xTT wJ_coder := good_cons mJ_coder
theorem sJ_coder : Cond.instanceMethod yJ_coder ∈ xTT := tt_mem (i := 600) (by decide +kernel) rfl
theorem lJ_coder : Cond.selects "java/lang/String" yJ_coder yJ_coder ∈ xTT := tt_mem (i := 601) (by decide +kernel) rfl
theorem iJ_coder : Cond.initialized "java/lang/String" ∈ xTT := tt_mem (i := 140) (by decide +kernel) rfl
def yJ_isLatin1 : MethodName := ⟨"java/lang/String", "isLatin1", "()Z"⟩
def cJ_isLatin1 : ByteArray := xbyt 612
theorem mJ_isLatin1 : Cond.code yJ_isLatin1 cJ_isLatin1 1 (some .boolean) ∈ xTT := tt_mem (i := 612) (xbyt_at (by decide +kernel)) rfl
theorem dJ_isLatin1_0 : decode cJ_isLatin1 0 = .ok (.getstatic 38, 3) := by decide +kernel
theorem dJ_isLatin1_3 : decode cJ_isLatin1 3 = .ok (.ifCond .eq 14, 3) := by decide +kernel
theorem dJ_isLatin1_6 : decode cJ_isLatin1 6 = .ok (.aload_n 0, 1) := by decide +kernel
theorem dJ_isLatin1_7 : decode cJ_isLatin1 7 = .ok (.getfield 15, 3) := by decide +kernel
theorem dJ_isLatin1_10 : decode cJ_isLatin1 10 = .ok (.ifCond .ne 7, 3) := by decide +kernel
theorem dJ_isLatin1_13 : decode cJ_isLatin1 13 = .ok (.iconst 1, 1) := by decide +kernel
theorem dJ_isLatin1_14 : decode cJ_isLatin1 14 = .ok (.goto 4, 3) := by decide +kernel
theorem dJ_isLatin1_17 : decode cJ_isLatin1 17 = .ok (.iconst 0, 1) := by decide +kernel
theorem dJ_isLatin1_18 : decode cJ_isLatin1 18 = .ok (.ireturn, 1) := by decide +kernel
def wJ_isLatin1 : List Cond := Cond.code yJ_isLatin1 cJ_isLatin1 1 (some .boolean) :: xTT
theorem gJ_isLatin1 : GoodIn xTT wJ_isLatin1 := good_cons mJ_isLatin1
theorem sJ_isLatin1 : Cond.instanceMethod yJ_isLatin1 ∈ xTT := tt_mem (i := 610) (by decide +kernel) rfl
theorem lJ_isLatin1 : Cond.selects "java/lang/String" yJ_isLatin1 yJ_isLatin1 ∈ xTT := tt_mem (i := 611) (by decide +kernel) rfl
theorem iJ_isLatin1 : Cond.initialized "java/lang/String" ∈ xTT := tt_mem (i := 140) (by decide +kernel) rfl
def yJ_length : MethodName := ⟨"java/lang/String", "length", "()I"⟩
def cJ_length : ByteArray := xbyt 598
theorem mJ_length : Cond.code yJ_length cJ_length 1 (some .int) ∈ xTT := tt_mem (i := 598) (xbyt_at (by decide +kernel)) rfl
theorem dJ_length_0 : decode cJ_length 0 = .ok (.aload_n 0, 1) := by decide +kernel
theorem dJ_length_1 : decode cJ_length 1 = .ok (.getfield 9, 3) := by decide +kernel
theorem dJ_length_4 : decode cJ_length 4 = .ok (.arraylength, 1) := by decide +kernel
theorem dJ_length_5 : decode cJ_length 5 = .ok (.aload_n 0, 1) := by decide +kernel
theorem dJ_length_6 : decode cJ_length 6 = .ok (.invokevirtual 335, 3) := by decide +kernel
theorem dJ_length_9 : decode cJ_length 9 = .ok (.ishr, 1) := by decide +kernel
theorem dJ_length_10 : decode cJ_length 10 = .ok (.ireturn, 1) := by decide +kernel
def wJ_length : List Cond := Cond.code yJ_length cJ_length 1 (some .int) :: xTT
theorem gJ_length : GoodIn xTT wJ_length := good_cons mJ_length
theorem sJ_length : Cond.instanceMethod yJ_length ∈ xTT := tt_mem (i := 596) (by decide +kernel) rfl
theorem lJ_length : Cond.selects "java/lang/String" yJ_length yJ_length ∈ xTT := tt_mem (i := 597) (by decide +kernel) rfl
theorem iJ_length : Cond.initialized "java/lang/String" ∈ xTT := tt_mem (i := 140) (by decide +kernel) rfl
def yJ_pcheck : MethodName := ⟨"jdk/internal/util/Preconditions", "checkIndex", "(IILjava/util/function/BiFunction;)I"⟩
def cJ_pcheck : ByteArray := xbyt 623
theorem mJ_pcheck : Cond.code yJ_pcheck cJ_pcheck 3 (some .int) ∈ xTT := tt_mem (i := 623) (xbyt_at (by decide +kernel)) rfl
theorem dJ_pcheck_0 : decode cJ_pcheck 0 = .ok (.iload_n 0, 1) := by decide +kernel
theorem dJ_pcheck_1 : decode cJ_pcheck 1 = .ok (.ifCond .lt 8, 3) := by decide +kernel
theorem dJ_pcheck_4 : decode cJ_pcheck 4 = .ok (.iload_n 0, 1) := by decide +kernel
theorem dJ_pcheck_5 : decode cJ_pcheck 5 = .ok (.iload_n 1, 1) := by decide +kernel
theorem dJ_pcheck_6 : decode cJ_pcheck 6 = .ok (.if_icmp .lt 10, 3) := by decide +kernel
theorem dJ_pcheck_16 : decode cJ_pcheck 16 = .ok (.iload_n 0, 1) := by decide +kernel
theorem dJ_pcheck_17 : decode cJ_pcheck 17 = .ok (.ireturn, 1) := by decide +kernel
def wJ_pcheck : List Cond := Cond.code yJ_pcheck cJ_pcheck 3 (some .int) :: xTT
theorem gJ_pcheck : GoodIn xTT wJ_pcheck := good_cons mJ_pcheck
theorem sJ_pcheck : Cond.static yJ_pcheck ∈ xTT := tt_mem (i := 622) (by decide +kernel) rfl
theorem iJ_pcheck : Cond.initialized "jdk/internal/util/Preconditions" ∈ xTT := tt_mem (i := 142) (by decide +kernel) rfl
def yJ_scheck : MethodName := ⟨"java/lang/String", "checkIndex", "(II)V"⟩
def cJ_scheck : ByteArray := xbyt 618
theorem mJ_scheck : Cond.code yJ_scheck cJ_scheck 2 (none) ∈ xTT := tt_mem (i := 618) (xbyt_at (by decide +kernel)) rfl
theorem dJ_scheck_0 : decode cJ_scheck 0 = .ok (.iload_n 0, 1) := by decide +kernel
theorem dJ_scheck_1 : decode cJ_scheck 1 = .ok (.iload_n 1, 1) := by decide +kernel
theorem dJ_scheck_2 : decode cJ_scheck 2 = .ok (.getstatic 1053, 3) := by decide +kernel
theorem dJ_scheck_5 : decode cJ_scheck 5 = .ok (.invokestatic 1059, 3) := by decide +kernel
theorem dJ_scheck_8 : decode cJ_scheck 8 = .ok (.pop, 1) := by decide +kernel
theorem dJ_scheck_9 : decode cJ_scheck 9 = .ok (.return_, 1) := by decide +kernel
def wJ_scheck : List Cond := Cond.code yJ_scheck cJ_scheck 2 (none) :: xTT
theorem gJ_scheck : GoodIn xTT wJ_scheck := good_cons mJ_scheck
theorem sJ_scheck : Cond.static yJ_scheck ∈ xTT := tt_mem (i := 617) (by decide +kernel) rfl
theorem iJ_scheck : Cond.initialized "java/lang/String" ∈ xTT := tt_mem (i := 140) (by decide +kernel) rfl
def yJ_lcharAt : MethodName := ⟨"java/lang/StringLatin1", "charAt", "([BI)C"⟩
def cJ_lcharAt : ByteArray := xbyt 615
theorem mJ_lcharAt : Cond.code yJ_lcharAt cJ_lcharAt 2 (some .char) ∈ xTT := tt_mem (i := 615) (xbyt_at (by decide +kernel)) rfl
theorem dJ_lcharAt_0 : decode cJ_lcharAt 0 = .ok (.iload_n 1, 1) := by decide +kernel
theorem dJ_lcharAt_1 : decode cJ_lcharAt 1 = .ok (.aload_n 0, 1) := by decide +kernel
theorem dJ_lcharAt_2 : decode cJ_lcharAt 2 = .ok (.arraylength, 1) := by decide +kernel
theorem dJ_lcharAt_3 : decode cJ_lcharAt 3 = .ok (.invokestatic 9, 3) := by decide +kernel
theorem dJ_lcharAt_6 : decode cJ_lcharAt 6 = .ok (.aload_n 0, 1) := by decide +kernel
theorem dJ_lcharAt_7 : decode cJ_lcharAt 7 = .ok (.iload_n 1, 1) := by decide +kernel
theorem dJ_lcharAt_8 : decode cJ_lcharAt 8 = .ok (.baload, 1) := by decide +kernel
theorem dJ_lcharAt_9 : decode cJ_lcharAt 9 = .ok (.sipush 255, 3) := by decide +kernel
theorem dJ_lcharAt_12 : decode cJ_lcharAt 12 = .ok (.iand, 1) := by decide +kernel
theorem dJ_lcharAt_13 : decode cJ_lcharAt 13 = .ok (.i2c, 1) := by decide +kernel
theorem dJ_lcharAt_14 : decode cJ_lcharAt 14 = .ok (.ireturn, 1) := by decide +kernel
def wJ_lcharAt : List Cond := Cond.code yJ_lcharAt cJ_lcharAt 2 (some .char) :: xTT
theorem gJ_lcharAt : GoodIn xTT wJ_lcharAt := good_cons mJ_lcharAt
theorem sJ_lcharAt : Cond.static yJ_lcharAt ∈ xTT := tt_mem (i := 614) (by decide +kernel) rfl
theorem iJ_lcharAt : Cond.initialized "java/lang/StringLatin1" ∈ xTT := tt_mem (i := 141) (by decide +kernel) rfl
def yJ_charAt : MethodName := ⟨"java/lang/String", "charAt", "(I)C"⟩
def cJ_charAt : ByteArray := xbyt 608
theorem mJ_charAt : Cond.code yJ_charAt cJ_charAt 2 (some .char) ∈ xTT := tt_mem (i := 608) (xbyt_at (by decide +kernel)) rfl
theorem dJ_charAt_0 : decode cJ_charAt 0 = .ok (.aload_n 0, 1) := by decide +kernel
theorem dJ_charAt_1 : decode cJ_charAt 1 = .ok (.invokevirtual 492, 3) := by decide +kernel
theorem dJ_charAt_4 : decode cJ_charAt 4 = .ok (.ifCond .eq 12, 3) := by decide +kernel
theorem dJ_charAt_7 : decode cJ_charAt 7 = .ok (.aload_n 0, 1) := by decide +kernel
theorem dJ_charAt_8 : decode cJ_charAt 8 = .ok (.getfield 9, 3) := by decide +kernel
theorem dJ_charAt_11 : decode cJ_charAt 11 = .ok (.iload_n 1, 1) := by decide +kernel
theorem dJ_charAt_12 : decode cJ_charAt 12 = .ok (.invokestatic 495, 3) := by decide +kernel
theorem dJ_charAt_15 : decode cJ_charAt 15 = .ok (.ireturn, 1) := by decide +kernel
def wJ_charAt : List Cond := Cond.code yJ_charAt cJ_charAt 2 (some .char) :: xTT
theorem gJ_charAt : GoodIn xTT wJ_charAt := good_cons mJ_charAt
theorem sJ_charAt : Cond.instanceMethod yJ_charAt ∈ xTT := tt_mem (i := 606) (by decide +kernel) rfl
theorem lJ_charAt : Cond.selects "java/lang/String" yJ_charAt yJ_charAt ∈ xTT := tt_mem (i := 607) (by decide +kernel) rfl
theorem iJ_charAt : Cond.initialized "java/lang/String" ∈ xTT := tt_mem (i := 140) (by decide +kernel) rfl
def yJ_isNaN : MethodName := ⟨"java/lang/Double", "isNaN", "(D)Z"⟩
def cJ_isNaN : ByteArray := xbyt 1738
theorem mJ_isNaN : Cond.code yJ_isNaN cJ_isNaN 2 (some .boolean) ∈ xTT := tt_mem (i := 1738) (xbyt_at (by decide +kernel)) rfl
theorem dJ_isNaN_0 : decode cJ_isNaN 0 = .ok (.dload_n 0, 1) := by decide +kernel
theorem dJ_isNaN_1 : decode cJ_isNaN 1 = .ok (.dload_n 0, 1) := by decide +kernel
theorem dJ_isNaN_2 : decode cJ_isNaN 2 = .ok (.dcmp .l, 1) := by decide +kernel
theorem dJ_isNaN_3 : decode cJ_isNaN 3 = .ok (.ifCond .eq 7, 3) := by decide +kernel
theorem dJ_isNaN_6 : decode cJ_isNaN 6 = .ok (.iconst 1, 1) := by decide +kernel
theorem dJ_isNaN_7 : decode cJ_isNaN 7 = .ok (.goto 4, 3) := by decide +kernel
theorem dJ_isNaN_10 : decode cJ_isNaN 10 = .ok (.iconst 0, 1) := by decide +kernel
theorem dJ_isNaN_11 : decode cJ_isNaN 11 = .ok (.ireturn, 1) := by decide +kernel
def wJ_isNaN : List Cond := Cond.code yJ_isNaN cJ_isNaN 2 (some .boolean) :: xTT
theorem gJ_isNaN : GoodIn xTT wJ_isNaN := good_cons mJ_isNaN
theorem sJ_isNaN : Cond.static yJ_isNaN ∈ xTT := tt_mem (i := 1737) (by decide +kernel) rfl
theorem iJ_isNaN : Cond.initialized "java/lang/Double" ∈ xTT := tt_mem (i := 145) (by decide +kernel) rfl
def yJ_d2lb : MethodName := ⟨"java/lang/Double", "doubleToLongBits", "(D)J"⟩
def cJ_d2lb : ByteArray := xbyt 1735
theorem mJ_d2lb : Cond.code yJ_d2lb cJ_d2lb 2 (some .long) ∈ xTT := tt_mem (i := 1735) (xbyt_at (by decide +kernel)) rfl
theorem dJ_d2lb_0 : decode cJ_d2lb 0 = .ok (.dload_n 0, 1) := by decide +kernel
theorem dJ_d2lb_1 : decode cJ_d2lb 1 = .ok (.invokestatic 122, 3) := by decide +kernel
theorem dJ_d2lb_4 : decode cJ_d2lb 4 = .ok (.ifCond .ne 8, 3) := by decide +kernel
theorem dJ_d2lb_7 : decode cJ_d2lb 7 = .ok (.dload_n 0, 1) := by decide +kernel
theorem dJ_d2lb_8 : decode cJ_d2lb 8 = .ok (.invokestatic 134, 3) := by decide +kernel
theorem dJ_d2lb_11 : decode cJ_d2lb 11 = .ok (.lreturn, 1) := by decide +kernel
def wJ_d2lb : List Cond := Cond.code yJ_d2lb cJ_d2lb 2 (some .long) :: xTT
theorem gJ_d2lb : GoodIn xTT wJ_d2lb := good_cons mJ_d2lb
theorem sJ_d2lb : Cond.static yJ_d2lb ∈ xTT := tt_mem (i := 1734) (by decide +kernel) rfl
theorem iJ_d2lb : Cond.initialized "java/lang/Double" ∈ xTT := tt_mem (i := 145) (by decide +kernel) rfl
theorem kJ_length_coder : Cond.methodLink "java/lang/String" 335 yJ_coder ∈ xTT := tt_mem (i := 599) (by decide +kernel) rfl
theorem kJ_charAt_isLatin1 : Cond.methodLink "java/lang/String" 492 yJ_isLatin1 ∈ xTT := tt_mem (i := 609) (by decide +kernel) rfl
theorem kJ_charAt_lcharAt : Cond.methodLink "java/lang/String" 495 yJ_lcharAt ∈ xTT := tt_mem (i := 613) (by decide +kernel) rfl
theorem kJ_lcharAt_scheck : Cond.methodLink "java/lang/StringLatin1" 9 yJ_scheck ∈ xTT := tt_mem (i := 616) (by decide +kernel) rfl
theorem kJ_scheck_pcheck : Cond.methodLink "java/lang/String" 1059 yJ_pcheck ∈ xTT := tt_mem (i := 621) (by decide +kernel) rfl
theorem kJ_d2lb_isNaN : Cond.methodLink "java/lang/Double" 122 yJ_isNaN ∈ xTT := tt_mem (i := 1736) (by decide +kernel) rfl
theorem kJ_t_length : Cond.methodLink "RouteStrides$Tape" 58 yJ_length ∈ xTT := tt_mem (i := 595) (by decide +kernel) rfl
theorem kJ_t_charAt : Cond.methodLink "RouteStrides$Tape" 100 yJ_charAt ∈ xTT := tt_mem (i := 605) (by decide +kernel) rfl
theorem kJ_m_length : Cond.methodLink "RouteStridesModel" 377 yJ_length ∈ xTT := tt_mem (i := 1559) (by decide +kernel) rfl
theorem kJ_m_charAt : Cond.methodLink "RouteStridesModel" 382 yJ_charAt ∈ xTT := tt_mem (i := 1560) (by decide +kernel) rfl
theorem kJ_m_d2lb : Cond.methodLink "RouteStridesModel" 481 yJ_d2lb ∈ xTT := tt_mem (i := 1733) (by decide +kernel) rfl
theorem kJ_d2lb_raw : Cond.methodLink "java/lang/Double" 134 ⟨"java/lang/Double", "doubleToRawLongBits", "(D)J"⟩ ∈ xTT := tt_mem (i := 1739) (by decide +kernel) rfl
theorem fJ_cs : Cond.fieldLink "java/lang/String" 38 "java/lang/String" "COMPACT_STRINGS" "Z" ∈ xTT := tt_mem (i := 603) (by decide +kernel) rfl
theorem fJ_coder : Cond.fieldLink "java/lang/String" 15 "java/lang/String" "coder" "B" ∈ xTT := tt_mem (i := 1828) (by decide +kernel) rfl
theorem fJ_value : Cond.fieldLink "java/lang/String" 9 "java/lang/String" "value" "[B" ∈ xTT := tt_mem (i := 1827) (by decide +kernel) rfl
theorem fJ_sio : Cond.fieldLink "java/lang/String" 1053 "jdk/internal/util/Preconditions" "SIOOBE_FORMATTER" "Ljava/util/function/BiFunction;" ∈ xTT := tt_mem (i := 619) (by decide +kernel) rfl
theorem nJ_raw : Cond.native ⟨"java/lang/Double", "doubleToRawLongBits", "(D)J"⟩ ∈ xTT := tt_mem (i := 1741) (by decide +kernel) rfl
theorem sJ_raw : Cond.static ⟨"java/lang/Double", "doubleToRawLongBits", "(D)J"⟩ ∈ xTT := tt_mem (i := 1740) (by decide +kernel) rfl
/-- the text constant and what its methods read -/
def xSt3 (q qv : Nat) (A : Nat → Prop) (U : State) : Prop := vk_S 1 [7] [[115, 116, 114, 105, 100, 101, 115]] (fun _ => q) (fun _ => qv) A U U.heap ∧ va_Z "java/lang/String" "COMPACT_STRINGS" "Z" (.int 1) A U U.heap ∧ va_Zq "jdk/internal/util/Preconditions" "SIOOBE_FORMATTER" "Ljava/util/function/BiFunction;" A U U.heap
theorem xSt3_same {q qv : Nat} {A : Nat → Prop} {u U : State} (hv : U.vm = u.vm) (hh : U.heap = u.heap) (h : xSt3 q qv A u) : xSt3 q qv A U := by
  have ha : u.vm.Alike U.vm := by rw [hv]; exact Vm.Alike.refl _
  exact ⟨by rw [hh]; exact vk_S.moved ha h.1, by rw [hh]; exact va_Z.moved ha h.2.1, by rw [hh]; exact va_Zq.moved ha h.2.2⟩
theorem xSt3_warm {q qv : Nat} {A : Nat → Prop} {s U : State} {H : Heap} {locs : List Loc} (hW : s.WarmedH U.vm) (hh : U.heap = H) (hS : va_S A s.heap H locs) (h : xSt3 q qv A s) : xSt3 q qv A U := by
  have ha : s.vm.Alike U.vm := hW.alike
  exact ⟨by rw [hh]; exact (vk_S.moved ha h.1).kept hS.2.1, by rw [hh]; exact (va_Z.moved ha h.2.1).kept hS.2.1, by rw [hh]; exact (va_Zq.moved ha h.2.2).kept hS.2.1⟩
def xQi (r : Int32) : Array Value → State → Outcome → State → Prop := vp_Si (fun x => x = r)
abbrev xF : Addr → Prop := fun _ => False
theorem strv_c {k : Nat} (hk : k < 7) : ((([115, 116, 114, 105, 100, 101, 115] : List Int32).getD k 0 &&& 255).toUInt32 % 65536).toInt32 = Int32.ofInt (strv k) ∧ narrow .char (.int (Int32.ofInt (strv k))) = .int (Int32.ofInt (strv k)) := by
  match k, hk with
  | 0, _ => exact ⟨by decide, by decide⟩
  | 1, _ => exact ⟨by decide, by decide⟩
  | 2, _ => exact ⟨by decide, by decide⟩
  | 3, _ => exact ⟨by decide, by decide⟩
  | 4, _ => exact ⟨by decide, by decide⟩
  | 5, _ => exact ⟨by decide, by decide⟩
  | 6, _ => exact ⟨by decide, by decide⟩
theorem cmp_same {α : Type} (f : Int) : compare f f = Ordering.eq := by
  rw [Int.compare_eq_eq]
theorem dok_dec {x : UInt64} (h : x &&& 0x7fffffffffffffff ≤ 0x7ff0000000000000) : FP.Core.decode FP.Core.b64 x.toNat ≠ FP.Core.Datum.nan := by
  have h1 : x.toNat % 9223372036854775808 ≤ 9218868437227405312 := by
    have h2 := UInt64.le_iff_toNat_le.mp h
    rw [UInt64.toNat_and] at h2
    have h3 : (0x7fffffffffffffff : UInt64).toNat = 2 ^ 63 - 1 := by decide
    rw [h3, Nat.and_two_pow_sub_one_eq_mod] at h2
    exact h2
  unfold FP.Core.decode
  split
  · rename_i he
    split
    · exact fun q => by cases q
    · rename_i ht
      exfalso
      apply ht
      have e1 : FP.Core.fieldE FP.Core.b64 x.toNat = x.toNat / 4503599627370496 % 2048 := rfl
      have e2 : FP.Core.fieldT FP.Core.b64 x.toNat = x.toNat % 4503599627370496 := rfl
      have e3 : FP.Core.Fmt.exps FP.Core.b64 - 1 = 2047 := rfl
      rw [e1, e3] at he
      rw [e2]
      omega
  · split
    · exact fun q => by cases q
    · exact fun q => by cases q
theorem dok_cmp {x : UInt64} (h : x &&& 0x7fffffffffffffff ≤ 0x7ff0000000000000) : Op.cmpValue (FP.dcmp x x) .l = 0 := by
  have h1 := dok_dec h
  unfold FP.dcmp FP.Core.dcmp FP.Core.cmp
  generalize FP.Core.decode FP.Core.b64 x.toNat = d at h1
  cases d with
  | nan => exact absurd rfl h1
  | inf s => simp only [FP.Core.order, cmp_same (α := Nat)]; rfl
  | fin s c q => simp only [FP.Core.order, cmp_same (α := Nat)]; rfl
set_option maxRecDepth 20000 in
theorem cJm_coder (l : Launch) {q qv : Nat} {A : Nat → Prop} : Met l yJ_coder wJ_coder { frames := 0, cells := 0, slots := 0, locals := 0 } (va_Pc [.ref q] (fun U => xSt3 q qv A U)) (xQi 0) 0 0 xF := by
  refine Met.ofW (cc := cJ_coder) (maxL := 1) (ret := (some .byte)) (by decide) rfl ?_
  intro p e s m args below meth c s₁ B hml hv
  obtain ⟨rfl, hE⟩ := hv
  have hx := B.exec
  have hb := B.bytes
  have hr := B.returns
  have hlocks := B.notSynchronized
  have hts0 := atoms_spec (ws := wJ_coder) B.pre
  have hts : ∀ w ∈ xTT, w.before _ s = true := fun w h => hts0 w (List.mem_cons_of_mem _ h)
  have hown : s.vm.findClass "java/lang/String" = some m.cls := findClass_of_methodNamed B.named
  have hS : va_S A s.heap s.heap [] := va_S.rf
  have hl := lv_entry ([.ref q]) (n := 1) (Nat.le_of_ble_eq_true rfl)
  rw [lg_entry_eq]
  generalize (lg_sl ([.ref q]) ++ List.replicate (1 - (lg_sl ([.ref q])).length) Slot.unset).toArray = ls at hl ⊢
  have hl : lv_has ls 1 [(0, .ref q)] := hl
  obtain ⟨hE1, hE2, hE3⟩ := hE
  refine va_gets hx hb hE2 hS hown (hts _ fJ_cs) (fun _ z => z) dJ_coder_0 ?_
  refine lv_if_eq (tgt := 13) hx hb dJ_coder_3 (by decide) (fun z => absurd z (by decide)) (fun _ => ?_)
  refine lv_aload_n hx hb dJ_coder_6 rfl (lv_at hl 0 rfl) ?_
  refine vk_getf hx hb (hE1.1 0 (by decide)).2.1 hS hown (hts _ fJ_coder) (fun _ z => z) dJ_coder_7 ?_
  refine lv_goto (tgt := 14) hx hb dJ_coder_10 (by decide) ?_
  exact W.zret (v := 0) hx hb hr rfl (fun t ht hW => ⟨0, rfl, rfl, ht⟩) (fun q hq => by cases hq) dJ_coder_14
set_option maxRecDepth 20000 in
theorem cJm_isLatin1 (l : Launch) {q qv : Nat} {A : Nat → Prop} : Met l yJ_isLatin1 wJ_isLatin1 { frames := 0, cells := 0, slots := 0, locals := 0 } (va_Pc [.ref q] (fun U => xSt3 q qv A U)) (xQi 1) 0 0 xF := by
  refine Met.ofW (cc := cJ_isLatin1) (maxL := 1) (ret := (some .boolean)) (by decide) rfl ?_
  intro p e s m args below meth c s₁ B hml hv
  obtain ⟨rfl, hE⟩ := hv
  have hx := B.exec
  have hb := B.bytes
  have hr := B.returns
  have hlocks := B.notSynchronized
  have hts0 := atoms_spec (ws := wJ_isLatin1) B.pre
  have hts : ∀ w ∈ xTT, w.before _ s = true := fun w h => hts0 w (List.mem_cons_of_mem _ h)
  have hown : s.vm.findClass "java/lang/String" = some m.cls := findClass_of_methodNamed B.named
  have hS : va_S A s.heap s.heap [] := va_S.rf
  have hl := lv_entry ([.ref q]) (n := 1) (Nat.le_of_ble_eq_true rfl)
  rw [lg_entry_eq]
  generalize (lg_sl ([.ref q]) ++ List.replicate (1 - (lg_sl ([.ref q])).length) Slot.unset).toArray = ls at hl ⊢
  have hl : lv_has ls 1 [(0, .ref q)] := hl
  obtain ⟨hE1, hE2, hE3⟩ := hE
  refine va_gets hx hb hE2 hS hown (hts _ fJ_cs) (fun _ z => z) dJ_isLatin1_0 ?_
  refine lv_if_eq (tgt := 17) hx hb dJ_isLatin1_3 (by decide) (fun z => absurd z (by decide)) (fun _ => ?_)
  refine lv_aload_n hx hb dJ_isLatin1_6 rfl (lv_at hl 0 rfl) ?_
  refine vk_getf hx hb (hE1.1 0 (by decide)).2.1 hS hown (hts _ fJ_coder) (fun _ z => z) dJ_isLatin1_7 ?_
  refine lv_if_ne (tgt := 17) hx hb dJ_isLatin1_10 (by decide) (fun z => absurd rfl z) (fun _ => ?_)
  refine lv_iconst (v := 1) hx hb dJ_isLatin1_13 rfl ?_
  refine lv_goto (tgt := 18) hx hb dJ_isLatin1_14 (by decide) ?_
  exact W.zret (v := 1) hx hb hr rfl (fun t ht hW => ⟨1, rfl, rfl, ht⟩) (fun q hq => by cases hq) dJ_isLatin1_18
set_option maxRecDepth 20000 in
theorem cJm_length (l : Launch) {q qv : Nat} {A : Nat → Prop} : Met l yJ_length wJ_length { frames := 1, cells := 0, slots := 0, locals := 20 } (va_Pc [.ref q] (fun U => xSt3 q qv A U)) (xQi 7) 0 0 xF := by
  refine Met.ofW (cc := cJ_length) (maxL := 1) (ret := (some .int)) (by decide) rfl ?_
  intro p e s m args below meth c s₁ B hml hv
  obtain ⟨rfl, hE⟩ := hv
  have hx := B.exec
  have hb := B.bytes
  have hr := B.returns
  have hlocks := B.notSynchronized
  have hts0 := atoms_spec (ws := wJ_length) B.pre
  have hts : ∀ w ∈ xTT, w.before _ s = true := fun w h => hts0 w (List.mem_cons_of_mem _ h)
  have hown : s.vm.findClass "java/lang/String" = some m.cls := findClass_of_methodNamed B.named
  have hS : va_S A s.heap s.heap [] := va_S.rf
  have hl := lv_entry ([.ref q]) (n := 1) (Nat.le_of_ble_eq_true rfl)
  rw [lg_entry_eq]
  generalize (lg_sl ([.ref q]) ++ List.replicate (1 - (lg_sl ([.ref q])).length) Slot.unset).toArray = ls at hl ⊢
  have hl : lv_has ls 1 [(0, .ref q)] := hl
  refine lv_aload_n hx hb dJ_length_0 rfl (lv_at hl 0 rfl) ?_
  refine vk_getf hx hb (hE.1.1 0 (by decide)).2.2.1 hS hown (hts _ fJ_value) (fun _ z => z) dJ_length_1 ?_
  refine va_tlen hx hb (hE.1.1 0 (by decide)).2.2.2 hS (v := 7) rfl dJ_length_4 ?_
  refine lv_aload_n hx hb dJ_length_5 rfl (lv_at hl 0 rfl) ?_
  refine vp_callSi (W.runV (As := []) (rest := [.int 7]) (C := "java/lang/String") (b := q) (nL := 1) ⟨hx, hb, hml, hown, hts⟩ (cJm_coder l) ⟨callB_of 0 hts gJ_coder rfl rfl rfl (hts _ iJ_coder) (hts _ kJ_length_coder) ⟨by decide, by decide, by decide +kernel⟩ ⟨Nat.le_of_ble_eq_true rfl, Nat.le_of_ble_eq_true rfl⟩, hts _ sJ_coder, hts _ lJ_coder⟩ ⟨fun a U g mk z => ⟨z.1, xSt3_same rfl rfl z.2⟩, vk_recv (i := 0) hE.1 (by decide) hS, fun U hU hW => ⟨rfl, xSt3_warm hW hU hS hE⟩⟩ rfl rfl hl.1 rfl (lv_room (Nat.le_of_ble_eq_true rfl)) dJ_length_6 ⟨Nat.le_refl _, Nat.le_refl _⟩) (fun r hr1 => ?_)
  subst hr1
  refine lv_ishr hx hb dJ_length_9 ?_
  exact W.zret (v := (7 : Int32) >>> ((0 : Int32) &&& 31)) hx hb hr rfl (fun t ht hW => ⟨(7 : Int32) >>> ((0 : Int32) &&& 31), rfl, rfl, ht⟩) (fun q hq => by cases hq) dJ_length_10
set_option maxRecDepth 20000 in
theorem cJm_pcheck0 (l : Launch) {q qv : Nat} {A : Nat → Prop} {i n : Int32} (h0 : ¬ i < 0) (h1 : i < n) : Met l yJ_pcheck wJ_pcheck { frames := 0, cells := 0, slots := 0, locals := 0 } (va_Pc [.int i, .int n, .null] (fun U => True)) (xQi i) 0 0 xF := by
  refine Met.ofW (cc := cJ_pcheck) (maxL := 3) (ret := (some .int)) (by decide) rfl ?_
  intro p e s m args below meth c s₁ B hml hv
  obtain ⟨rfl, hE⟩ := hv
  have hx := B.exec
  have hb := B.bytes
  have hr := B.returns
  have hlocks := B.notSynchronized
  have hts0 := atoms_spec (ws := wJ_pcheck) B.pre
  have hts : ∀ w ∈ xTT, w.before _ s = true := fun w h => hts0 w (List.mem_cons_of_mem _ h)
  have hown : s.vm.findClass "jdk/internal/util/Preconditions" = some m.cls := findClass_of_methodNamed B.named
  have hS : va_S A s.heap s.heap [] := va_S.rf
  have hl := lv_entry ([.int i, .int n, .null]) (n := 3) (Nat.le_of_ble_eq_true rfl)
  rw [lg_entry_eq]
  generalize (lg_sl ([.int i, .int n, .null]) ++ List.replicate (3 - (lg_sl ([.int i, .int n, .null])).length) Slot.unset).toArray = ls at hl ⊢
  have hl : lv_has ls 3 [(0, .int i), (1, .int n), (2, .null)] := hl
  refine lv_iload_n hx hb dJ_pcheck_0 rfl (lv_at hl 0 rfl) ?_
  refine lv_if_lt (tgt := 9) hx hb dJ_pcheck_1 (by decide) (fun z => absurd z h0) (fun _ => ?_)
  refine lv_iload_n hx hb dJ_pcheck_4 rfl (lv_at hl 0 rfl) ?_
  refine lv_iload_n hx hb dJ_pcheck_5 rfl (lv_at hl 1 rfl) ?_
  refine lv_icmp_lt (tgt := 16) hx hb dJ_pcheck_6 (by decide) (fun _ => ?_) (fun z => absurd h1 z)
  refine lv_iload_n hx hb dJ_pcheck_16 rfl (lv_at hl 0 rfl) ?_
  exact W.iret (v := i) hx hb hr (fun t ht hW => ⟨i, rfl, rfl, ht⟩) (fun q hq => by cases hq) dJ_pcheck_17
set_option maxRecDepth 20000 in
theorem cJm_pcheck1 (l : Launch) {q qv : Nat} {A : Nat → Prop} {tz : Nat} {i n : Int32} (h0 : ¬ i < 0) (h1 : i < n) : Met l yJ_pcheck wJ_pcheck { frames := 0, cells := 0, slots := 0, locals := 0 } (va_Pc [.int i, .int n, .ref tz] (fun U => True)) (xQi i) 0 0 xF := by
  refine Met.ofW (cc := cJ_pcheck) (maxL := 3) (ret := (some .int)) (by decide) rfl ?_
  intro p e s m args below meth c s₁ B hml hv
  obtain ⟨rfl, hE⟩ := hv
  have hx := B.exec
  have hb := B.bytes
  have hr := B.returns
  have hlocks := B.notSynchronized
  have hts0 := atoms_spec (ws := wJ_pcheck) B.pre
  have hts : ∀ w ∈ xTT, w.before _ s = true := fun w h => hts0 w (List.mem_cons_of_mem _ h)
  have hown : s.vm.findClass "jdk/internal/util/Preconditions" = some m.cls := findClass_of_methodNamed B.named
  have hS : va_S A s.heap s.heap [] := va_S.rf
  have hl := lv_entry ([.int i, .int n, .ref tz]) (n := 3) (Nat.le_of_ble_eq_true rfl)
  rw [lg_entry_eq]
  generalize (lg_sl ([.int i, .int n, .ref tz]) ++ List.replicate (3 - (lg_sl ([.int i, .int n, .ref tz])).length) Slot.unset).toArray = ls at hl ⊢
  have hl : lv_has ls 3 [(0, .int i), (1, .int n), (2, .ref tz)] := hl
  refine lv_iload_n hx hb dJ_pcheck_0 rfl (lv_at hl 0 rfl) ?_
  refine lv_if_lt (tgt := 9) hx hb dJ_pcheck_1 (by decide) (fun z => absurd z h0) (fun _ => ?_)
  refine lv_iload_n hx hb dJ_pcheck_4 rfl (lv_at hl 0 rfl) ?_
  refine lv_iload_n hx hb dJ_pcheck_5 rfl (lv_at hl 1 rfl) ?_
  refine lv_icmp_lt (tgt := 16) hx hb dJ_pcheck_6 (by decide) (fun _ => ?_) (fun z => absurd h1 z)
  refine lv_iload_n hx hb dJ_pcheck_16 rfl (lv_at hl 0 rfl) ?_
  exact W.iret (v := i) hx hb hr (fun t ht hW => ⟨i, rfl, rfl, ht⟩) (fun q hq => by cases hq) dJ_pcheck_17
set_option maxRecDepth 20000 in
theorem cJm_scheck (l : Launch) {q qv : Nat} {A : Nat → Prop} {i n : Int32} (h0 : ¬ i < 0) (h1 : i < n) : Met l yJ_scheck wJ_scheck { frames := 1, cells := 0, slots := 0, locals := 30 } (va_Pc [.int i, .int n] (fun U => va_Zq "jdk/internal/util/Preconditions" "SIOOBE_FORMATTER" "Ljava/util/function/BiFunction;" A U U.heap)) (va_Sv (fun _ => True)) 0 0 xF := by
  refine Met.ofW (cc := cJ_scheck) (maxL := 2) (ret := (none)) (by decide) rfl ?_
  intro p e s m args below meth c s₁ B hml hv
  obtain ⟨rfl, hE⟩ := hv
  have hx := B.exec
  have hb := B.bytes
  have hr := B.returns
  have hlocks := B.notSynchronized
  have hts0 := atoms_spec (ws := wJ_scheck) B.pre
  have hts : ∀ w ∈ xTT, w.before _ s = true := fun w h => hts0 w (List.mem_cons_of_mem _ h)
  have hown : s.vm.findClass "java/lang/String" = some m.cls := findClass_of_methodNamed B.named
  have hS : va_S A s.heap s.heap [] := va_S.rf
  have hl := lv_entry ([.int i, .int n]) (n := 2) (Nat.le_of_ble_eq_true rfl)
  rw [lg_entry_eq]
  generalize (lg_sl ([.int i, .int n]) ++ List.replicate (2 - (lg_sl ([.int i, .int n])).length) Slot.unset).toArray = ls at hl ⊢
  have hl : lv_has ls 2 [(0, .int i), (1, .int n)] := hl
  refine lv_iload_n hx hb dJ_scheck_0 rfl (lv_at hl 0 rfl) ?_
  refine lv_iload_n hx hb dJ_scheck_1 rfl (lv_at hl 1 rfl) ?_
  rcases hE with hZ | ⟨tz, hZ⟩
  · refine va_gets hx hb hZ hS hown (hts _ fJ_sio) (fun _ z => z) dJ_scheck_2 ?_
    refine vp_callSi (W.runS (As := [.int i, .int n, .null]) (rest := []) (nL := 2) ⟨hx, hb, hml, hown, hts⟩ (cJm_pcheck0 l (q := 0) (qv := 0) (A := A) h0 h1) ⟨callB_of 3 hts gJ_pcheck rfl rfl rfl (hts _ iJ_pcheck) (hts _ kJ_scheck_pcheck) ⟨by decide, by decide, by decide +kernel⟩ ⟨Nat.le_of_ble_eq_true rfl, Nat.le_of_ble_eq_true rfl⟩, hts _ sJ_pcheck⟩ ⟨fun a U g mk z => z, fun U hU hW => ⟨rfl, trivial⟩⟩ rfl rfl hl.1 rfl (lv_room (Nat.le_of_ble_eq_true rfl)) dJ_scheck_5 ⟨Nat.le_refl _, Nat.le_refl _⟩) (fun r hr1 => ?_)
    subst hr1
    refine lv_pop hx hb dJ_scheck_8 rfl ?_
    exact W.vret hx hb hr (fun t ht hW => ⟨rfl, trivial, ht⟩) (fun q hq => by cases hq) dJ_scheck_9
  · refine va_gets hx hb hZ hS hown (hts _ fJ_sio) (fun _ z => z) dJ_scheck_2 ?_
    refine vp_callSi (W.runS (As := [.int i, .int n, .ref tz]) (rest := []) (nL := 2) ⟨hx, hb, hml, hown, hts⟩ (cJm_pcheck1 l (q := 0) (qv := 0) (A := A) h0 h1) ⟨callB_of 3 hts gJ_pcheck rfl rfl rfl (hts _ iJ_pcheck) (hts _ kJ_scheck_pcheck) ⟨by decide, by decide, by decide +kernel⟩ ⟨Nat.le_of_ble_eq_true rfl, Nat.le_of_ble_eq_true rfl⟩, hts _ sJ_pcheck⟩ ⟨fun a U g mk z => z, fun U hU hW => ⟨rfl, trivial⟩⟩ rfl rfl hl.1 rfl (lv_room (Nat.le_of_ble_eq_true rfl)) dJ_scheck_5 ⟨Nat.le_refl _, Nat.le_refl _⟩) (fun r hr1 => ?_)
    subst hr1
    refine lv_pop hx hb dJ_scheck_8 rfl ?_
    exact W.vret hx hb hr (fun t ht hW => ⟨rfl, trivial, ht⟩) (fun q hq => by cases hq) dJ_scheck_9
set_option maxRecDepth 20000 in
theorem cJm_lcharAt (l : Launch) {q qv : Nat} {A : Nat → Prop} {k : Nat} (hk : k < 7) : Met l yJ_lcharAt wJ_lcharAt { frames := 2, cells := 0, slots := 0, locals := 60 } (va_Pc [.ref qv, .int (nI k)] (fun U => xSt3 q qv A U)) (xQi (Int32.ofInt (strv k))) 0 0 xF := by
  refine Met.ofW (cc := cJ_lcharAt) (maxL := 2) (ret := (some .char)) (by decide) rfl ?_
  intro p e s m args below meth c s₁ B hml hv
  obtain ⟨rfl, hE⟩ := hv
  have hx := B.exec
  have hb := B.bytes
  have hr := B.returns
  have hlocks := B.notSynchronized
  have hts0 := atoms_spec (ws := wJ_lcharAt) B.pre
  have hts : ∀ w ∈ xTT, w.before _ s = true := fun w h => hts0 w (List.mem_cons_of_mem _ h)
  have hown : s.vm.findClass "java/lang/StringLatin1" = some m.cls := findClass_of_methodNamed B.named
  have hS : va_S A s.heap s.heap [] := va_S.rf
  have hl := lv_entry ([.ref qv, .int (nI k)]) (n := 2) (Nat.le_of_ble_eq_true rfl)
  rw [lg_entry_eq]
  generalize (lg_sl ([.ref qv, .int (nI k)]) ++ List.replicate (2 - (lg_sl ([.ref qv, .int (nI k)])).length) Slot.unset).toArray = ls at hl ⊢
  have hl : lv_has ls 2 [(0, .ref qv), (1, .int (nI k))] := hl
  refine lv_iload_n hx hb dJ_lcharAt_0 rfl (lv_at hl 1 rfl) ?_
  refine lv_aload_n hx hb dJ_lcharAt_1 rfl (lv_at hl 0 rfl) ?_
  refine va_tlen hx hb (hE.1.1 0 (by decide)).2.2.2 hS (v := 7) rfl dJ_lcharAt_2 ?_
  refine va_csv (W.runS (As := [.int (nI k), .int 7]) (rest := []) (nL := 2) ⟨hx, hb, hml, hown, hts⟩ (cJm_scheck l (q := 0) (qv := 0) (A := A) (nI_pos (by omega)) (show nI k < nI 7 from nI_lt hk (by decide))) ⟨callB_of 2 hts gJ_scheck rfl rfl rfl (hts _ iJ_scheck) (hts _ kJ_lcharAt_scheck) ⟨by decide, by decide, by decide +kernel⟩ ⟨Nat.le_of_ble_eq_true rfl, Nat.le_of_ble_eq_true rfl⟩, hts _ sJ_scheck⟩ ⟨fun a U g mk z => ⟨z.1, va_Zq.moved (u := U) (U := U.calling g mk a) (Vm.Alike.refl U.vm) z.2⟩, fun U hU hW => ⟨rfl, (xSt3_warm hW hU hS hE).2.2⟩⟩ rfl rfl hl.1 rfl (lv_room (Nat.le_of_ble_eq_true rfl)) dJ_lcharAt_3 ⟨Nat.le_refl _, Nat.le_refl _⟩) (fun _ => ?_)
  refine lv_aload_n hx hb dJ_lcharAt_6 rfl (lv_at hl 0 rfl) ?_
  refine lv_iload_n hx hb dJ_lcharAt_7 rfl (lv_at hl 1 rfl) ?_
  refine va_tb hx hb (hE.1.1 0 (by decide)).2.2.2 hS (vp_in_nI hk (by decide)) (v := .int (([115, 116, 114, 105, 100, 101, 115] : List Int32).getD k 0)) (by rw [nI_clamp (by omega)]; rfl) dJ_lcharAt_8 ?_
  refine lv_sipush (v := 255) hx hb dJ_lcharAt_9 (by decide) ?_
  refine lv_iand hx hb dJ_lcharAt_12 ?_
  refine lv_i2c (v := Int32.ofInt (strv k)) hx hb dJ_lcharAt_13 (strv_c hk).1 ?_
  exact W.zret (v := Int32.ofInt (strv k)) hx hb hr (strv_c hk).2 (fun t ht hW => ⟨_, rfl, rfl, ht⟩) (fun q hq => by cases hq) dJ_lcharAt_14
set_option maxRecDepth 20000 in
theorem cJm_charAt (l : Launch) {q qv : Nat} {A : Nat → Prop} {k : Nat} (hk : k < 7) : Met l yJ_charAt wJ_charAt { frames := 3, cells := 0, slots := 0, locals := 90 } (va_Pc [.ref q, .int (nI k)] (fun U => xSt3 q qv A U)) (xQi (Int32.ofInt (strv k))) 0 0 xF := by
  refine Met.ofW (cc := cJ_charAt) (maxL := 2) (ret := (some .char)) (by decide) rfl ?_
  intro p e s m args below meth c s₁ B hml hv
  obtain ⟨rfl, hE⟩ := hv
  have hx := B.exec
  have hb := B.bytes
  have hr := B.returns
  have hlocks := B.notSynchronized
  have hts0 := atoms_spec (ws := wJ_charAt) B.pre
  have hts : ∀ w ∈ xTT, w.before _ s = true := fun w h => hts0 w (List.mem_cons_of_mem _ h)
  have hown : s.vm.findClass "java/lang/String" = some m.cls := findClass_of_methodNamed B.named
  have hS : va_S A s.heap s.heap [] := va_S.rf
  have hl := lv_entry ([.ref q, .int (nI k)]) (n := 2) (Nat.le_of_ble_eq_true rfl)
  rw [lg_entry_eq]
  generalize (lg_sl ([.ref q, .int (nI k)]) ++ List.replicate (2 - (lg_sl ([.ref q, .int (nI k)])).length) Slot.unset).toArray = ls at hl ⊢
  have hl : lv_has ls 2 [(0, .ref q), (1, .int (nI k))] := hl
  refine lv_aload_n hx hb dJ_charAt_0 rfl (lv_at hl 0 rfl) ?_
  refine vp_callSi (W.runV (As := []) (rest := []) (C := "java/lang/String") (b := q) (nL := 2) ⟨hx, hb, hml, hown, hts⟩ (cJm_isLatin1 l) ⟨callB_of 0 hts gJ_isLatin1 rfl rfl rfl (hts _ iJ_isLatin1) (hts _ kJ_charAt_isLatin1) ⟨by decide, by decide, by decide +kernel⟩ ⟨Nat.le_of_ble_eq_true rfl, Nat.le_of_ble_eq_true rfl⟩, hts _ sJ_isLatin1, hts _ lJ_isLatin1⟩ ⟨fun a U g mk z => ⟨z.1, xSt3_same rfl rfl z.2⟩, vk_recv (i := 0) hE.1 (by decide) hS, fun U hU hW => ⟨rfl, xSt3_warm hW hU hS hE⟩⟩ rfl rfl hl.1 rfl (lv_room (Nat.le_of_ble_eq_true rfl)) dJ_charAt_1 ⟨Nat.le_refl _, Nat.le_refl _⟩) (fun r hr1 => ?_)
  subst hr1
  refine lv_if_eq (tgt := 16) hx hb dJ_charAt_4 (by decide) (fun z => absurd z (by decide)) (fun _ => ?_)
  refine lv_aload_n hx hb dJ_charAt_7 rfl (lv_at hl 0 rfl) ?_
  refine vk_getf hx hb (hE.1.1 0 (by decide)).2.2.1 hS hown (hts _ fJ_value) (fun _ z => z) dJ_charAt_8 ?_
  refine lv_iload_n hx hb dJ_charAt_11 rfl (lv_at hl 1 rfl) ?_
  refine vp_callSi (W.runS (As := [.ref qv, .int (nI k)]) (rest := []) (nL := 2) ⟨hx, hb, hml, hown, hts⟩ (cJm_lcharAt l (q := q) (A := A) hk) ⟨callB_of 2 hts gJ_lcharAt rfl rfl rfl (hts _ iJ_lcharAt) (hts _ kJ_charAt_lcharAt) ⟨by decide, by decide, by decide +kernel⟩ ⟨Nat.le_of_ble_eq_true rfl, Nat.le_of_ble_eq_true rfl⟩, hts _ sJ_lcharAt⟩ ⟨fun a U g mk z => ⟨z.1, xSt3_same rfl rfl z.2⟩, fun U hU hW => ⟨rfl, xSt3_warm hW hU hS hE⟩⟩ rfl rfl hl.1 rfl (lv_room (Nat.le_of_ble_eq_true rfl)) dJ_charAt_12 ⟨Nat.le_refl _, Nat.le_refl _⟩) (fun r hr1 => ?_)
  subst hr1
  exact W.zret (v := Int32.ofInt (strv k)) hx hb hr (strv_c hk).2 (fun t ht hW => ⟨_, rfl, rfl, ht⟩) (fun q hq => by cases hq) dJ_charAt_15
set_option maxRecDepth 20000 in
theorem cJm_isNaN (l : Launch) {q qv : Nat} {A : Nat → Prop} {x : UInt64} (hxn : x &&& 0x7fffffffffffffff ≤ 0x7ff0000000000000) : Met l yJ_isNaN wJ_isNaN { frames := 0, cells := 0, slots := 0, locals := 0 } (va_Pc [.double x] (fun U => True)) (xQi 0) 0 0 xF := by
  refine Met.ofW (cc := cJ_isNaN) (maxL := 2) (ret := (some .boolean)) (by decide) rfl ?_
  intro p e s m args below meth c s₁ B hml hv
  obtain ⟨rfl, hE⟩ := hv
  have hx := B.exec
  have hb := B.bytes
  have hr := B.returns
  have hlocks := B.notSynchronized
  have hts0 := atoms_spec (ws := wJ_isNaN) B.pre
  have hts : ∀ w ∈ xTT, w.before _ s = true := fun w h => hts0 w (List.mem_cons_of_mem _ h)
  have hown : s.vm.findClass "java/lang/Double" = some m.cls := findClass_of_methodNamed B.named
  have hS : va_S A s.heap s.heap [] := va_S.rf
  have hl := lv_entry ([.double x]) (n := 2) (Nat.le_of_ble_eq_true rfl)
  rw [lg_entry_eq]
  generalize (lg_sl ([.double x]) ++ List.replicate (2 - (lg_sl ([.double x])).length) Slot.unset).toArray = ls at hl ⊢
  have hl : lv_has ls 2 [(0, .double x)] := hl
  refine lv_dload_n hx hb dJ_isNaN_0 rfl (lv_at hl 0 rfl) ?_
  refine lv_dload_n hx hb dJ_isNaN_1 rfl (lv_at hl 0 rfl) ?_
  refine lv_dcmp hx hb dJ_isNaN_2 ?_
  refine lv_if_eq (tgt := 10) hx hb dJ_isNaN_3 (by decide) (fun _ => ?_) (fun z => absurd (dok_cmp hxn) z)
  refine lv_iconst (v := 0) hx hb dJ_isNaN_10 rfl ?_
  exact W.zret (v := 0) hx hb hr rfl (fun t ht hW => ⟨0, rfl, rfl, ht⟩) (fun q hq => by cases hq) dJ_isNaN_11
set_option maxRecDepth 20000 in
theorem cJm_d2lb (l : Launch) {A : Nat → Prop} {x : UInt64} (hxn : x &&& 0x7fffffffffffffff ≤ 0x7ff0000000000000) : Met l yJ_d2lb wJ_d2lb { frames := 1, cells := 0, slots := 0, locals := 40 } (va_Pc [.double x] (fun U => True)) (vp_Sl (fun r => r = x.toInt64)) 0 0 xF := by
  refine Met.ofW (cc := cJ_d2lb) (maxL := 2) (ret := (some .long)) (by decide) rfl ?_
  intro p e s m args below meth c s₁ B hml hv
  obtain ⟨rfl, hE⟩ := hv
  have hx := B.exec
  have hb := B.bytes
  have hr := B.returns
  have hlocks := B.notSynchronized
  have hts0 := atoms_spec (ws := wJ_d2lb) B.pre
  have hts : ∀ w ∈ xTT, w.before _ s = true := fun w h => hts0 w (List.mem_cons_of_mem _ h)
  have hown : s.vm.findClass "java/lang/Double" = some m.cls := findClass_of_methodNamed B.named
  have hS : va_S A s.heap s.heap [] := va_S.rf
  have hl := lv_entry ([.double x]) (n := 2) (Nat.le_of_ble_eq_true rfl)
  rw [lg_entry_eq]
  generalize (lg_sl ([.double x]) ++ List.replicate (2 - (lg_sl ([.double x])).length) Slot.unset).toArray = ls at hl ⊢
  have hl : lv_has ls 2 [(0, .double x)] := hl
  refine lv_dload_n hx hb dJ_d2lb_0 rfl (lv_at hl 0 rfl) ?_
  refine vp_callSi (W.runS (As := [.double x]) (rest := []) (nL := 2) ⟨hx, hb, hml, hown, hts⟩ (cJm_isNaN l (q := 0) (qv := 0) (A := A) hxn) ⟨callB_of 1 hts gJ_isNaN rfl rfl rfl (hts _ iJ_isNaN) (hts _ kJ_d2lb_isNaN) ⟨by decide, by decide, by decide +kernel⟩ ⟨Nat.le_of_ble_eq_true rfl, Nat.le_of_ble_eq_true rfl⟩, hts _ sJ_isNaN⟩ ⟨fun a U g mk z => z, fun U hU hW => ⟨rfl, trivial⟩⟩ rfl rfl hl.1 rfl (lv_room (Nat.le_of_ble_eq_true rfl)) dJ_d2lb_1 ⟨Nat.le_refl _, Nat.le_refl _⟩) (fun r hr1 => ?_)
  subst hr1
  refine lv_if_ne (tgt := 12) hx hb dJ_d2lb_4 (by decide) (fun z => absurd rfl z) (fun _ => ?_)
  refine lv_dload_n hx hb dJ_d2lb_7 rfl (lv_at hl 0 rfl) ?_
  refine vn_d2l hx hb (by rw [hml]; exact hl.1.symm) hown (hts _ kJ_d2lb_raw) (hts _ nJ_raw) (hts _ sJ_raw) (hts _ iJ_d2lb) (Nat.le_of_ble_eq_true rfl) (Nat.le_of_ble_eq_true rfl) dJ_d2lb_8 ?_
  exact W.lret (v := x.toInt64) hx hb hr (fun t ht hW => ⟨_, rfl, rfl, ht⟩) (fun q hq => by cases hq) dJ_d2lb_11

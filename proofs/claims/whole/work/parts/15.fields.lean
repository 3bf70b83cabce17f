/-- a field's kind and its type -/
def ktB (f : Nat × Nat × Int) (ty : FieldType) : Bool := match f.1 with
  | 0 => (Nat.beq f.2.1 0 && decide (ty = .int)) || (Nat.beq f.2.1 1 && decide (ty = .boolean))
  | 1 => decide (ty = .long)
  | t => [2, 3, 4, 5, 6, 7, 12].contains t
def xclP (ci : Nat) (q : vw_C) : Prop := (xfs.getD ci []).length = q.2.2 ∧ (∀ w ∈ u_ws q.1 q.2.1 q.2.2, w ∈ xTT) ∧ xcn ci = q.1 ∧ ∃ ty0 : Nat → FieldType, (∀ k, k < q.2.2 → parseFieldDescriptor (q.2.1 k).2.2.1 = some (ty0 k)) ∧ (∀ k, k < q.2.2 → ktB (xfld ci k) (ty0 k) = true) ∧ ∀ a, a < q.2.2 → ∀ b, b < q.2.2 → a ≠ b → (q.2.1 a).2.1 ≠ (q.2.1 b).2.1
theorem tt_of {ws : List Cond} (ps : List Nat) (h : ws = ps.filterMap (fun i => lw_tbl[i]?)) (hg : ws.all goodWord = true) : ∀ w ∈ ws, w ∈ xTT := by
  intro w hw
  have h1 := List.all_eq_true.mp hg w hw
  rw [h] at hw
  obtain ⟨i, -, hi⟩ := List.mem_filterMap.mp hw
  exact tt_mem hi h1
theorem xcl_0 : xclP 0 (RX0, TX0, 2) := ⟨by decide +kernel, tt_of [413, 415] (by decide +kernel) (by decide +kernel), by decide +kernel, tyX0, tyX0_ok, by decide +kernel, nmX0⟩
theorem xcl_1 : xclP 1 (RX1, TX1, 7) := ⟨by decide +kernel, tt_of [388, 390, 392, 394, 396, 398, 400] (by decide +kernel) (by decide +kernel), by decide +kernel, tyX1, tyX1_ok, by decide +kernel, nmX1⟩
theorem xcl_2 : xclP 2 (RX2, TX2, 3) := ⟨by decide +kernel, tt_of [360, 362, 364] (by decide +kernel) (by decide +kernel), by decide +kernel, tyX2, tyX2_ok, by decide +kernel, nmX2⟩
theorem xcl_3 : xclP 3 (RX3, TX3, 18) := ⟨by decide +kernel, tt_of [313, 315, 317, 319, 321, 323, 325, 327, 329, 331, 333, 335, 337, 339, 341, 343, 345, 347] (by decide +kernel) (by decide +kernel), by decide +kernel, tyX3, tyX3_ok, by decide +kernel, nmX3⟩
theorem xcl_4 : xclP 4 (RX4, TX4, 3) := ⟨by decide +kernel, tt_of [430, 432, 434] (by decide +kernel) (by decide +kernel), by decide +kernel, tyX4, tyX4_ok, by decide +kernel, nmX4⟩
theorem xcl_5 : xclP 5 (RX5, TX5, 10) := ⟨by decide +kernel, tt_of [258, 260, 262, 264, 266, 268, 270, 272, 274, 276] (by decide +kernel) (by decide +kernel), by decide +kernel, tyX5, tyX5_ok, by decide +kernel, nmX5⟩
theorem xcl_6 : xclP 6 (RX6, TX6, 8) := ⟨by decide +kernel, tt_of [210, 212, 214, 216, 218, 220, 222, 224] (by decide +kernel) (by decide +kernel), by decide +kernel, tyX6, tyX6_ok, by decide +kernel, nmX6⟩
theorem xcl_7 : xclP 7 (RX7, TX7, 4) := ⟨by decide +kernel, tt_of [165, 167, 169, 171] (by decide +kernel) (by decide +kernel), by decide +kernel, tyX7, tyX7_ok, by decide +kernel, nmX7⟩
theorem xcl_8 : xclP 8 (RX8, TX8, 17) := ⟨by decide +kernel, tt_of [454, 456, 458, 460, 462, 464, 466, 468, 470, 472, 474, 476, 478, 480, 482, 484, 486] (by decide +kernel) (by decide +kernel), by decide +kernel, tyX8, tyX8_ok, by decide +kernel, nmX8⟩
theorem xcl_9 : xclP 9 (RX9, TX9, 52) := ⟨by decide +kernel, tt_of [1247, 1249, 1251, 1253, 1255, 1257, 1259, 1261, 1263, 1265, 1267, 1269, 1271, 1273, 1275, 1277, 1279, 1281, 1283, 1285, 1287, 1289, 1291, 1293, 1295, 1297, 1299, 1301, 1303, 1305, 1307, 1309, 1311, 1313, 1315, 1317, 1319, 1321, 1323, 1325, 1327, 1329, 1331, 1333, 1335, 1337, 1339, 1341, 1343, 1345, 1347, 1349] (by decide +kernel) (by decide +kernel), by decide +kernel, tyX9, tyX9_ok, by decide +kernel, nmX9⟩
theorem xcl_ok : ∀ (ci : Nat) (q : vw_C), xcl[ci]? = some q → xclP ci q
  | 0, _, h => by cases h; exact xcl_0
  | 1, _, h => by cases h; exact xcl_1
  | 2, _, h => by cases h; exact xcl_2
  | 3, _, h => by cases h; exact xcl_3
  | 4, _, h => by cases h; exact xcl_4
  | 5, _, h => by cases h; exact xcl_5
  | 6, _, h => by cases h; exact xcl_6
  | 7, _, h => by cases h; exact xcl_7
  | 8, _, h => by cases h; exact xcl_8
  | 9, _, h => by cases h; exact xcl_9
  | n + 10, _, h => by simp [xcl] at h
theorem fls_at {i own idx ci k pos : Nat} (h : fls[i]? = some (own, idx, ci, k, pos)) : ∃ C T N, xcl[ci]? = some (C, T, N) ∧ k < N ∧ (T k).1 = C ∧ Cond.fieldLink (xcn own) idx (T k).1 (T k).2.1 (T k).2.2.1 ∈ xTT := by
  have h1 := List.all_eq_true.mp fls_ok _ (List.mem_of_getElem? h)
  unfold xfokB at h1
  dsimp only at h1
  cases hc : xcl[ci]? with
  | none => rw [hc] at h1; cases h1
  | some q =>
    obtain ⟨C, T, N⟩ := q
    rw [hc] at h1
    simp only [Bool.and_eq_true, decide_eq_true_eq] at h1
    exact ⟨C, T, N, rfl, Nat.le_of_ble_eq_true h1.1, h1.2.1, tt_mem h1.2.2 rfl⟩
theorem cls_at {i own idx kind pos : Nat} {v : Int} (h : cls_[i]? = some (own, idx, kind, v, pos)) : xcok (own, idx, kind, v, pos) = true := List.all_eq_true.mp cls_ok _ (List.mem_of_getElem? h)
theorem mls_at {i own idx k nest pos : Nat} (h : mls[i]? = some (own, idx, k, nest, pos)) : xmok (own, idx, k, nest, pos) = true := List.all_eq_true.mp mls_ok _ (List.mem_of_getElem? h)

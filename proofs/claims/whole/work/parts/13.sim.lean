/-! THE SIMULATION: what the abstract run says, the machine does. -/
theorem o32 (x : Int) : Int32.ofInt (z32 x) = Int32.ofInt x := by
  rw [Int32.ofInt_eq_iff_bmod_eq_toInt, Int32.toInt_ofInt]
  unfold z32
  exact Int.bmod_bmod
theorem o64 (x : Int) : Int64.ofInt (z64 x) = Int64.ofInt x := by
  rw [Int64.ofInt_eq_iff_bmod_eq_toInt, Int64.toInt_ofInt]
  unfold z64
  exact Int.bmod_bmod
def i32 (x : Int) : Prop := -2147483648 ≤ x ∧ x < 2147483648
def i64 (x : Int) : Prop := -9223372036854775808 ≤ x ∧ x < 9223372036854775808
theorem t32 {x : Int} (h : i32 x) : (Int32.ofInt x).toInt = x := Int32.toInt_ofInt_of_le h.1 h.2
theorem t64 {x : Int} (h : i64 x) : (Int64.ofInt x).toInt = x := Int64.toInt_ofInt_of_le h.1 h.2
theorem i32_t (x : Int32) : i32 x.toInt := ⟨x.le_toInt, x.toInt_lt⟩
theorem i64_t (x : Int64) : i64 x.toInt := ⟨x.le_toInt, x.toInt_lt⟩
theorem i32_z (x : Int) : i32 (z32 x) := by
  have h := i32_t (Int32.ofInt x)
  rw [Int32.toInt_ofInt] at h
  exact h
theorem i64_z (x : Int) : i64 (z64 x) := by
  have h := i64_t (Int64.ofInt x)
  rw [Int64.toInt_ofInt] at h
  exact h
theorem i32_64 {x : Int} (h : i32 x) : i64 x := ⟨by have := h.1; omega, by have := h.2; omega⟩
theorem l32 {x y : Int} (hx : i32 x) (hy : i32 y) : Int32.ofInt x < Int32.ofInt y ↔ x < y := by rw [Int32.lt_iff_toInt_lt, t32 hx, t32 hy]
theorem le32 {x y : Int} (hx : i32 x) (hy : i32 y) : Int32.ofInt x ≤ Int32.ofInt y ↔ x ≤ y := by rw [Int32.le_iff_toInt_le, t32 hx, t32 hy]
theorem e32 {x y : Int} (hx : i32 x) (hy : i32 y) : Int32.ofInt x = Int32.ofInt y ↔ x = y := by rw [← Int32.toInt_inj, t32 hx, t32 hy]
theorem l64 {x y : Int} (hx : i64 x) (hy : i64 y) : Int64.ofInt x < Int64.ofInt y ↔ x < y := by rw [Int64.lt_iff_toInt_lt, t64 hx, t64 hy]
theorem le64 {x y : Int} (hx : i64 x) (hy : i64 y) : Int64.ofInt x ≤ Int64.ofInt y ↔ x ≤ y := by rw [Int64.le_iff_toInt_le, t64 hx, t64 hy]
theorem e64 {x y : Int} (hx : i64 x) (hy : i64 y) : Int64.ofInt x = Int64.ofInt y ↔ x = y := by rw [← Int64.toInt_inj, t64 hx, t64 hy]
theorem n32 {j : Int} (h0 : 0 ≤ j) (h : i32 j) : (Int32.ofInt j).toNatClampNeg = j.toNat := by
  unfold Int32.toNatClampNeg
  rw [t32 h]
theorem in32 {j : Int} {n : Nat} (h0 : 0 ≤ j) (h : j < (n : Int)) (hr : i32 j) : vp_in (Int32.ofInt j) n := by
  rw [vp_in_iff, t32 hr]
  exact ⟨h0, h⟩
-- inversions
theorem sI_i {S : List xV} {k : Int → List xV → Prop} (h : sI S k) : ∃ n x T, S = (0, n, x) :: T ∧ k x T := by
  unfold sI at h; split at h
  · exact ⟨_, _, _, rfl, h⟩
  · exact h.elim
theorem sL_i {S : List xV} {k : Int → List xV → Prop} (h : sL S k) : ∃ n x T, S = (1, n, x) :: T ∧ k x T := by
  unfold sL at h; split at h
  · exact ⟨_, _, _, rfl, h⟩
  · exact h.elim
theorem sD_i {S : List xV} {k : Int → List xV → Prop} (h : sD S k) : ∃ n x T, S = (8, n, x) :: T ∧ k x T := by
  unfold sD at h; split at h
  · exact ⟨_, _, _, rfl, h⟩
  · exact h.elim
theorem sO_i {c : Nat} {S : List xV} {k : Int → List xV → Prop} (h : sO c S k) : ∃ x T, S = (2, c, x) :: T ∧ k x T := by
  unfold sO at h; split at h
  · split at h
    · rename_i hb
      cases Nat.eq_of_beq_eq_true hb
      exact ⟨_, _, rfl, h⟩
    · exact h.elim
  · exact h.elim
theorem sA_i {t : Nat} {S : List xV} {k : Nat → Int → List xV → Prop} (h : sA t S k) : ∃ n a T, S = (t, n, a) :: T ∧ k n a T := by
  unfold sA at h; split at h
  · split at h
    · rename_i hb
      cases Nat.eq_of_beq_eq_true hb
      exact ⟨_, _, _, rfl, h⟩
    · exact h.elim
  · exact h.elim
theorem sB_i {b : Bool} {P : Prop} (h : sB b P) : b = true ∧ P := by
  unfold sB at h; split at h
  · exact ⟨rfl, h⟩
  · exact h.elim
theorem sV_i {S : List xV} {k : xV → List xV → Prop} (h : sV S k) : ∃ v T, S = v :: T ∧ k v T := by
  unfold sV at h; split at h
  · exact ⟨_, _, rfl, h⟩
  · exact h.elim
theorem sZ_i {n : Nat} {A B : Prop} (h : sZ n A B) : (n = 0 ∧ A) ∨ (n ≠ 0 ∧ B) := by
  unfold sZ at h; split at h
  · exact Or.inl ⟨rfl, h⟩
  · rename_i hn; exact Or.inr ⟨hn, h⟩
theorem s3_i {n : Nat} {A B : Prop} (h : s3 n A B) : (n = 0 ∧ A) ∨ (n = 1 ∧ B) := by
  unfold s3 at h; split at h
  · exact Or.inl ⟨rfl, h⟩
  · exact Or.inr ⟨rfl, h⟩
  · exact h.elim
theorem sJ_i {S : List xV} {k : Nat → Int → List xV → Prop} {m : List xV → Prop} (h : sJ S k m) : (∃ n a T, S = (3, n, a) :: T ∧ k n a T) ∨ (∃ n a T, S = (11, n, a) :: T ∧ m T) := by
  unfold sJ at h; split at h
  · exact Or.inl ⟨_, _, _, rfl, h⟩
  · exact Or.inr ⟨_, _, _, rfl, h⟩
  · exact h.elim
theorem sK_i {S : List xV} {k m : Nat → Int → List xV → Prop} (h : sK S k m) : (∃ n a T, S = (6, n, a) :: T ∧ k n a T) ∨ (∃ n a T, S = (7, n, a) :: T ∧ m n a T) := by
  unfold sK at h; split at h
  · exact Or.inl ⟨_, _, _, rfl, h⟩
  · exact Or.inr ⟨_, _, _, rfl, h⟩
  · exact h.elim
theorem sY_i {S : List xV} {k m : Nat → Int → List xV → Prop} (h : sY S k m) : (∃ n a T, S = (5, n, a) :: T ∧ k n a T) ∨ (∃ n a T, S = (12, n, a) :: T ∧ m n a T) := by
  unfold sY at h; split at h
  · exact Or.inl ⟨_, _, _, rfl, h⟩
  · exact Or.inr ⟨_, _, _, rfl, h⟩
  · exact h.elim
theorem sS_i {t : Nat} {S : List xV} {k : List xV → Prop} (h : sS t S k) : ∃ n a T, S = (t, n, a) :: T ∧ k T := by
  unfold sS at h; split at h
  · split at h
    · rename_i hb
      cases Nat.eq_of_beq_eq_true hb
      exact ⟨_, _, _, rfl, h⟩
    · exact h.elim
  · exact h.elim
theorem sC_i {n m : Nat} {S : List xV} {k : List xV → List xV → Prop} (h : sC n m S k) : n ≤ S.length ∧ wid (S.drop n) ≤ 8 ∧ (lay1 (S.take n).reverse).length ≤ m ∧ k (S.take n).reverse (S.drop n) := by
  unfold sC at h; split at h
  · rename_i h1 h2 h3
    exact ⟨Nat.le_of_ble_eq_true h1, Nat.le_of_ble_eq_true h2, Nat.le_of_ble_eq_true h3, h⟩
  · exact h.elim
theorem sH_i {c : Nat} {as : List xV} {P : Prop} (h : sH c as P) : (∃ x T, as = (2, c, x) :: T) ∧ P := by
  unfold sH at h; split at h
  · split at h
    · rename_i hb
      cases Nat.eq_of_beq_eq_true hb
      exact ⟨⟨_, _, rfl⟩, h⟩
    · exact h.elim
  · exact h.elim
theorem sW_i {T : List xV} {P : Prop} (h : sW T P) : wid T ≤ 8 ∧ P := by
  unfold sW at h; split at h
  · rename_i h1; exact ⟨Nat.le_of_ble_eq_true h1, h⟩
  · exact h.elim
theorem r1_i {S : List xV} {k : Int → Prop} (h : r1 S k) : ∃ n x, S = [(0, n, x)] ∧ k x := by
  unfold r1 at h; split at h
  · exact ⟨_, _, rfl, h⟩
  · exact h.elim
theorem r2_i {S : List xV} {k : Int → Prop} (h : r2 S k) : ∃ n x, S = [(1, n, x)] ∧ k x := by
  unfold r2 at h; split at h
  · exact ⟨_, _, rfl, h⟩
  · exact h.elim
theorem r0_i {S : List xV} {k : Prop} (h : r0 S k) : S = [] ∧ k := by
  unfold r0 at h; split at h
  · exact ⟨rfl, h⟩
  · exact h.elim
theorem rb_i {x : Int} {P : Prop} (h : rb x P) : (x = 0 ∨ x = 1) ∧ P := by
  unfold rb at h; split at h
  · exact ⟨Or.inl rfl, h⟩
  · exact ⟨Or.inr rfl, h⟩
  · exact h
-- values
abbrev xG : Type := (Nat → Nat) × Nat × Nat
def mkV (G : xG) (v : xV) : Value := match v.1 with
  | 0 => .int (Int32.ofInt v.2.2)
  | 1 => .long (Int64.ofInt v.2.2)
  | 8 => .double (UInt64.ofNat v.2.2.toNat)
  | 10 => .ref G.2.1
  | 11 => .ref G.2.2
  | _ => .ref (G.1 v.2.2.toNat)
abbrev xSH : Type := List (Nat × Nat)
def okV (SH : xSH) (v : xV) : Prop := match v.1 with
  | 0 => i32 v.2.2
  | 1 => i64 v.2.2
  | 8 => 0 ≤ v.2.2 ∧ v.2.2 < 18446744073709551616
  | 9 => True
  | 10 => True
  | 11 => True
  | t => 0 ≤ v.2.2 ∧ SH[v.2.2.toNat]? = some (t, v.2.1)
theorem isR_mk {G : xG} {v : xV} (h : isR v = true) : ∃ y, mkV G v = .ref y := by
  obtain ⟨t, n, x⟩ := v
  unfold isR at h
  unfold mkV
  dsimp only at h ⊢
  split at h <;> first | (cases h; done) | skip
  split <;> first | exact ⟨_, rfl⟩ | (exfalso; simp_all)
theorem two_cat (G : xG) (v : xV) : (mkV G v).category = if two v then 2 else 1 := by
  obtain ⟨t, n, x⟩ := v
  unfold mkV two
  dsimp only
  split <;> first | rfl | (split <;> first | rfl | (exfalso; simp_all; done))
theorem wid_cat (G : xG) : ∀ (T : List xV), ((T.map (mkV G)).map fun v => v.category).sum = wid T
  | [] => rfl
  | v :: T => by
    rw [List.map_cons, List.map_cons, List.sum_cons, wid_cat G T, two_cat, wid]
    cases two v
    · simp; omega
    · simp; omega
-- locals
def LR (G : xG) (ls : Array Slot) (L : List xV) : Prop := ls.size = L.length ∧ lv_wf ls ∧ ∀ (i : Nat) (v : xV), L[i]? = some v → v.1 ≠ 9 → ls[i]? = some (.val (mkV G v))
def lvl (G : xG) (L : List xV) : List (Nat × Value) := (List.range L.length).filterMap fun i => match L[i]? with
  | some v => if v.1 = 9 then none else some (i, mkV G v)
  | none => none
theorem lvl_mem {G : xG} {L : List xV} {i : Nat} {v : xV} (h : L[i]? = some v) (h9 : v.1 ≠ 9) : (i, mkV G v) ∈ lvl G L := by
  refine List.mem_filterMap.mpr ⟨i, List.mem_range.mpr (List.getElem?_eq_some_iff.mp h).1, ?_⟩
  simp only [h, if_neg h9]
theorem LR_has {G : xG} {ls : Array Slot} {L : List xV} (h : LR G ls L) : lv_has ls L.length (lvl G L) := by
  refine ⟨h.1, h.2.1, fun q hq => ?_⟩
  obtain ⟨i, -, hi⟩ := List.mem_filterMap.mp hq
  revert hi
  cases hL : L[i]? with
  | none => exact fun hi => by cases hi
  | some v =>
    intro hi
    by_cases h9 : v.1 = 9
    · simp [h9] at hi
    · simp only [if_neg h9] at hi
      cases hi
      exact h.2.2 i v hL h9
theorem getD_at {L : List xV} {i : Nat} {v : xV} (h : L.getD i xU = v) (h9 : v.1 ≠ 9) : L[i]? = some v := by
  rw [List.getD_eq_getElem?_getD] at h
  cases hL : L[i]? with
  | none => rw [hL] at h; rw [← h] at h9; exact absurd rfl h9
  | some w => rw [hL] at h; exact congrArg some h
theorem cutv_keep {v : xV} (h : (cutv v).1 ≠ 9) : two v = false ∧ cutv v = v := by
  unfold cutv at h ⊢
  cases hv : two v with
  | true => rw [hv] at h; exact absurd rfl h
  | false => exact ⟨rfl, rfl⟩
theorem cut1_at {L : List xV} {i j : Nat} {w : xV} (h : (cut1 L i)[j]? = some w) (h9 : w.1 ≠ 9) : L[j]? = some w ∧ (j + 1 = i → two w = false) := by
  cases i with
  | zero => exact ⟨h, fun q => by omega⟩
  | succ n =>
    have h : (L.set n (cutv (L.getD n xU)))[j]? = some w := h
    by_cases hj : n = j
    · subst hj
      have hlt : n < L.length := by
        have := (List.getElem?_eq_some_iff.mp h).1
        rwa [List.length_set] at this
      rw [List.getElem?_set_self hlt] at h
      cases h
      obtain ⟨h1, h2⟩ := cutv_keep h9
      rw [h2] at h9 ⊢
      exact ⟨getD_at rfl h9, fun _ => h1⟩
    · rw [List.getElem?_set_ne hj] at h
      exact ⟨h, fun q => by omega⟩
theorem cut1_len (L : List xV) (i : Nat) : (cut1 L i).length = L.length := by
  unfold cut1; split
  · rfl
  · exact List.length_set
theorem LR_st1 {G : xG} {ls' : Array Slot} {L : List xV} {i : Nat} {v : xV} (h : lv_has ls' L.length ((i, mkV G v) :: (lvl G L).filter (fun q => !(q.1 == i) && !(q.1 + 1 == i && q.2.category == 2)))) : LR G ls' (st1 L i v) := by
  refine ⟨by rw [h.1]; unfold st1; rw [List.length_set, cut1_len], h.2.1, fun j w hj h9 => ?_⟩
  unfold st1 at hj
  by_cases hij : i = j
  · subst hij
    have hlt : i < (cut1 L i).length := by
      have := (List.getElem?_eq_some_iff.mp hj).1
      rwa [List.length_set] at this
    rw [List.getElem?_set_self hlt] at hj
    cases hj
    exact h.2.2 (i, mkV G v) List.mem_cons_self
  · rw [List.getElem?_set_ne hij] at hj
    obtain ⟨h1, h2⟩ := cut1_at hj h9
    refine h.2.2 (j, mkV G w) (List.mem_cons_of_mem _ (List.mem_filter.mpr ⟨lvl_mem h1 h9, ?_⟩))
    have e1 : (j == i) = false := by simp; omega
    by_cases hji : j + 1 = i
    · have hc : (mkV G w).category = 1 := by rw [two_cat, h2 hji]; rfl
      simp [e1, hc]
    · have e2 : (j + 1 == i) = false := by simp; omega
      simp [e1, e2]
theorem LR_st2 {G : xG} {ls' : Array Slot} {L : List xV} {i : Nat} {v : xV} (h : lv_has ls' L.length ((i, mkV G v) :: (lvl G L).filter (fun q => !(q.1 == i) && (!(q.1 == i + 1) && !(q.1 + 1 == i && q.2.category == 2))))) : LR G ls' (st2 L i v) := by
  refine ⟨by rw [h.1]; unfold st2; rw [List.length_set, List.length_set, cut1_len], h.2.1, fun j w hj h9 => ?_⟩
  unfold st2 at hj
  by_cases hij : i = j
  · subst hij
    have hlt : i < ((cut1 L i).set (i + 1) xU).length := by
      have := (List.getElem?_eq_some_iff.mp hj).1
      rwa [List.length_set] at this
    rw [List.getElem?_set_self hlt] at hj
    cases hj
    exact h.2.2 (i, mkV G v) List.mem_cons_self
  · rw [List.getElem?_set_ne hij] at hj
    by_cases hij2 : i + 1 = j
    · subst hij2
      have hlt : i + 1 < (cut1 L i).length := by
        have := (List.getElem?_eq_some_iff.mp hj).1
        rwa [List.length_set] at this
      rw [List.getElem?_set_self hlt] at hj
      cases hj
      exact absurd rfl h9
    · rw [List.getElem?_set_ne hij2] at hj
      obtain ⟨h1, h2⟩ := cut1_at hj h9
      refine h.2.2 (j, mkV G w) (List.mem_cons_of_mem _ (List.mem_filter.mpr ⟨lvl_mem h1 h9, ?_⟩))
      have e1 : (j == i) = false := by simp; omega
      have e3 : (j == i + 1) = false := by simp; omega
      by_cases hji : j + 1 = i
      · have hc : (mkV G w).category = 1 := by rw [two_cat, h2 hji]; rfl
        simp [e1, e3, hc]
      · have e2 : (j + 1 == i) = false := by simp; omega
        simp [e1, e2, e3]
theorem okV_cut1 {SH : xSH} {L : List xV} {i : Nat} (h : ∀ w ∈ L, okV SH w) : ∀ w ∈ cut1 L i, okV SH w := by
  intro w q
  cases i with
  | zero => exact h w q
  | succ n =>
    rcases List.mem_or_eq_of_mem_set (show w ∈ L.set n (cutv (L.getD n xU)) from q) with q | q
    · exact h w q
    · subst q
      unfold cutv
      split
      · trivial
      · rw [List.getD_eq_getElem?_getD]
        cases hn : L[n]? with
        | none => trivial
        | some z => exact h z (List.mem_of_getElem? hn)
theorem okV_st1 {SH : xSH} {L : List xV} {i : Nat} {v : xV} (h : ∀ w ∈ L, okV SH w) (hv : okV SH v) : ∀ w ∈ st1 L i v, okV SH w := by
  intro w hw
  unfold st1 at hw
  rcases List.mem_or_eq_of_mem_set hw with q | q
  · exact okV_cut1 h w q
  · subst q; exact hv
theorem okV_st2 {SH : xSH} {L : List xV} {i : Nat} {v : xV} (h : ∀ w ∈ L, okV SH w) (hv : okV SH v) : ∀ w ∈ st2 L i v, okV SH w := by
  intro w hw
  unfold st2 at hw
  rcases List.mem_or_eq_of_mem_set hw with q | q
  · rcases List.mem_or_eq_of_mem_set q with q | q
    · exact okV_cut1 h w q
    · subst q; trivial
  · subst q; exact hv

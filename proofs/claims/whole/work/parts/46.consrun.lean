/-! CONSTRUCTION'S RUN: one interpreter on plain data. -/
abbrev cO : Type := Nat × Nat × Nat × Int
abbrev cS : Type := Nat × List xV × List xV × xSH × List cO × Nat × Nat
abbrev rV (a : Nat) : xV := (15, 0, (a : Int))
def cM (B : xM) : List cO → xM
  | [] => B
  | (o, a, k, v) :: P => match o with
    | 0 => up (cM B P) a k v
    | 1 => mnM (cM B P) a k
    | _ => dn (cM B P) a
def rd : List cO → Nat → Nat → Int
  | [], _, _ => 0
  | (o, a, k, v) :: P, b, j => match Nat.beq b a with
    | false => rd P b j
    | true => match o with
      | 0 => match Nat.beq j k with
        | true => v
        | false => rd P b j
      | 1 => match Nat.ble k j with
        | true => 0
        | false => (a : Int) + 1 + (j : Int)
      | _ => if rd P b j = 0 then 0 else rd P b j - 1
theorem beq_f {a b : Nat} (h : Nat.beq a b = false) : ¬ a = b := fun e => by
  subst e
  rw [Nat.beq_refl] at h
  cases h
theorem rd_ok {B : xM} (hB : ∀ b j : Nat, B b j = 0) : ∀ (P : List cO) (b j : Nat), cM B P b j = rd P b j
  | [], b, j => hB b j
  | (o, a, k, v) :: P, b, j => by
    have ih := rd_ok hB P b j
    unfold cM rd
    cases hb : Nat.beq b a with
    | false =>
      have e : ¬ (b : Int) = (a : Int) := nat_cast_ne (beq_f hb)
      match o with
      | 0 => show up (cM B P) a k v b j = rd P b j; rw [up_ne e]; exact ih
      | 1 => show mnM (cM B P) a k b j = rd P b j; rw [mnM_ne e]; exact ih
      | o + 2 => show dn (cM B P) a b j = rd P b j; rw [dn_ne e]; exact ih
    | true =>
      have e := Nat.eq_of_beq_eq_true hb
      subst e
      match o with
      | 0 =>
        show up (cM B P) b k v b j = match Nat.beq j k with
          | true => v
          | false => rd P b j
        cases hj : Nat.beq j k with
        | true =>
          have e := Nat.eq_of_beq_eq_true hj
          subst e
          exact up_same
        | false => rw [up_off (nat_cast_ne (beq_f hj))]; exact ih
      | 1 =>
        show mnM (cM B P) b k b j = match Nat.ble k j with
          | true => 0
          | false => (b : Int) + 1 + (j : Int)
        cases hj : Nat.ble k j with
        | true =>
          have := Nat.le_of_ble_eq_true hj
          exact mnM_out (by omega)
        | false =>
          have : ¬ k ≤ j := fun q => by rw [Nat.ble_eq_true_of_le q] at hj; cases hj
          exact mnM_in (by omega)
      | o + 2 =>
        show dn (cM B P) b b j = if rd P b j = 0 then 0 else rd P b j - 1
        rw [dn_at, ih]
theorem rd_out : ∀ {P : List cO} {n b j : Nat}, (∀ q ∈ P, q.2.1 < n) → n ≤ b → rd P b j = 0
  | [], _, _, _, _, _ => rfl
  | (o, a, k, v) :: P, n, b, j, h, hb => by
    have h1 : a < n := h _ List.mem_cons_self
    have e : Nat.beq b a = false := by
      cases hq : Nat.beq b a with
      | false => rfl
      | true => have := Nat.eq_of_beq_eq_true hq; omega
    unfold rd
    rw [e]
    exact rd_out (fun q hq => h q (List.mem_cons_of_mem _ hq)) hb
def cV (n : Nat) (v : xV) : Prop := match v.1 with
  | 0 => i32 v.2.2
  | 15 => 0 ≤ v.2.2 ∧ v.2.2 < (n : Int)
  | _ => False
def cAg (n : Nat) (G G2 : xG) : Prop := G2.2 = G.2 ∧ ∀ i : Nat, i < n → G2.1 i = G.1 i
theorem cAg_rf {n : Nat} {G : xG} : cAg n G G := ⟨rfl, fun _ _ => rfl⟩
theorem cAg_tr {n n1 : Nat} {G G1 G2 : xG} (h : cAg n G G1) (h1 : cAg n1 G1 G2) (hn : n ≤ n1) : cAg n G G2 := ⟨h1.1.trans h.1, fun i hi => (h1.2 i (by omega)).trans (h.2 i hi)⟩
theorem cAg_gx {G : xG} {n q : Nat} : cAg n G (gx G n q) := ⟨rfl, fun _ hi => gx_lt hi⟩
theorem cAg_gxs {G : xG} {n q : Nat} : cAg n G (gxs G n q) := ⟨rfl, fun _ hi => gxs_lt hi⟩
theorem cV_r {n : Nat} {v : xV} (h : cV n v) (h1 : Nat.beq v.1 15 = true) : ∃ (z a : Nat), v = (15, z, (a : Int)) ∧ a < n := by
  obtain ⟨t, z, x⟩ := v
  cases Nat.eq_of_beq_eq_true h1
  have h : 0 ≤ x ∧ x < (n : Int) := h
  exact ⟨z, x.toNat, by rw [Int.toNat_of_nonneg h.1], by omega⟩
theorem cV_i {n : Nat} {v : xV} (h : cV n v) (h1 : Nat.beq v.1 0 = true) : ∃ (z : Nat) (x : Int), v = (0, z, x) ∧ i32 x := by
  obtain ⟨t, z, x⟩ := v
  cases Nat.eq_of_beq_eq_true h1
  exact ⟨z, x, rfl, h⟩
theorem cV_le {n n2 : Nat} {v : xV} (h : cV n v) (hn : n ≤ n2) : cV n2 v := by
  obtain ⟨t, z, x⟩ := v
  unfold cV at h ⊢
  dsimp only at h ⊢
  split at h
  · exact h
  · exact ⟨h.1, by omega⟩
  · exact h
theorem cV_9 {n : Nat} {v : xV} (h : cV n v) : ¬ v.1 = 9 := by
  obtain ⟨t, z, x⟩ := v
  intro e
  have e : t = 9 := e
  subst e
  exact h
theorem cV_1 {n : Nat} {v : xV} (h : cV n v) : two v = false := by
  obtain ⟨t, z, x⟩ := v
  unfold cV at h
  dsimp only at h
  split at h
  · rfl
  · rfl
  · exact h.elim
theorem mk_g {n : Nat} {G G2 : xG} {v : xV} (h : cV n v) (hg : cAg n G G2) : mkV G2 v = mkV G v := by
  obtain ⟨t, z, x⟩ := v
  unfold cV at h
  dsimp only at h
  split at h
  · rfl
  · show Value.ref (G2.1 x.toNat) = Value.ref (G.1 x.toNat)
    rw [hg.2 _ (by omega)]
  · exact h.elim
theorem map_g {n : Nat} {G G2 : xG} {S : List xV} (h : ∀ v ∈ S, cV n v) (hg : cAg n G G2) : S.map (mkV G2) = S.map (mkV G) := List.map_congr_left fun v hv => mk_g (h v hv) hg
theorem LR_g {n : Nat} {G G2 : xG} {ls : Array Slot} {L : List xV} (h : ∀ v ∈ L, v.1 = 9 ∨ cV n v) (hg : cAg n G G2) (hL : LR G ls L) : LR G2 ls L := by
  refine ⟨hL.1, hL.2.1, fun i v hi h9 => ?_⟩
  rcases h v (List.mem_of_getElem? hi) with q | q
  · exact absurd q h9
  · rw [mk_g q hg]; exact hL.2.2 i v hi h9
theorem xStat_g {G G2 : xG} {cA : Nat → ClassId} {D : va_G} {A : Nat → Prop} {Ls : Nat} {xs : Nat → Int32} {s : State} (e : G2.2 = G.2) (h : xStat G cA D A Ls xs s) : xStat G2 cA D A Ls xs s := by
  unfold xStat xStr at h ⊢
  rw [e]
  exact h
def chkDone (SH : xSH) (P : List cO) (a ci : Nat) : Bool := (List.range (xfs.getD ci []).length).all fun k => match (xfld ci k).1 with
  | 0 => r32 (rd P a k)
  | 1 => decide (-9223372036854775808 ≤ rd P a k) && decide (rd P a k < 9223372036854775808)
  | t => decide (0 ≤ (a : Int) + (xfld ci k).2.2) && (decide (rd P a k = (a : Int) + (xfld ci k).2.2 + 1) && decide ((SH.set a (2, ci))[((a : Int) + (xfld ci k).2.2).toNat]? = some (t, (xfld ci k).2.1)))
def cDone (SH : xSH) (P : List cO) (a : Nat) : xSH := match SH[a]? with
  | some (t, ci) => match Nat.beq t 13 && chkDone SH P a ci with
    | true => SH.set a (2, ci)
    | false => SH
  | none => SH
theorem cDone_len (SH : xSH) (P : List cO) (a : Nat) : (cDone SH P a).length = SH.length := by
  unfold cDone
  split
  · split
    · exact List.length_set
    · rfl
  · rfl
theorem cDone_ok {SH : xSH} {G : xG} {cA : Nat → ClassId} {D : va_G} {A : Nat → Prop} {Ls : Nat} {xs : Nat → Int32} {H0 : Heap} {B : xM} (hB : ∀ b j : Nat, B b j = 0) {P : List cO} {H : Heap} {locs : List Loc} (a : Nat) (h : xDyn SH G cA D A Ls xs H0 (cM B P) H locs) (hO : okO SH (cM B P)) : xDyn (cDone SH P a) G cA D A Ls xs H0 (cM B P) H locs ∧ okO (cDone SH P a) (cM B P) := by
  unfold cDone
  split
  · rename_i t ci ha
    split
    · rename_i hc
      rw [Bool.and_eq_true] at hc
      cases Nat.eq_of_beq_eq_true hc.1
      refine c_done h hO ha (fun k hk => ?_)
      have h1 := List.all_eq_true.mp hc.2 k (List.mem_range.mpr hk)
      rw [rd_ok hB]
      revert h1
      cases xfld ci k with
      | mk kd r =>
        match kd with
        | 0 => exact fun h1 => r32_i h1
        | 1 =>
          intro h1
          simp only [Bool.and_eq_true, decide_eq_true_eq] at h1
          exact h1
        | kd + 2 =>
          intro h1
          simp only [Bool.and_eq_true, decide_eq_true_eq] at h1
          exact h1
    · exact ⟨h, hO⟩
  · exact ⟨h, hO⟩
/-- the first strides of a table -/
def tfO (t : Nat) : List cO := [(0, t + 6, 7, 4), (0, t + 6, 6, 4), (0, t + 6, 5, 4), (0, t + 6, 4, 4), (0, t + 6, 3, 4), (0, t + 6, 2, 4), (0, t + 6, 1, 4), (0, t + 6, 0, 4), (0, t, 6, 8)]
def nin (x : Int) : Bool := decide (0 ≤ x) && decide (x < 200000)
def cRun : Nat → Nat → Nat → Nat → cS → Option cS
  | 0, _, _, _, _ => none
  | f + 1, d, k, stop, (pc, L, S, SH, P, cl, sl) => match Nat.beq pc stop with
    | true => some (pc, L, S, SH, P, cl, sl)
    | false => match (kC k).find? (fun e => Nat.beq e.1 pc) with
      | none => none
      | some (_, ins, len, a1, a2, _, _, c, _) => match ins with
        | .iconst _ => cRun f d k stop (pc + len, L, xI c :: S, SH, P, cl, sl)
        | .bipush _ => cRun f d k stop (pc + len, L, xI c :: S, SH, P, cl, sl)
        | .sipush _ => cRun f d k stop (pc + len, L, xI c :: S, SH, P, cl, sl)
        | .ldc _ => cRun f d k stop (pc + len, L, xI c :: S, SH, P, cl, sl)
        | .ldc_w _ => cRun f d k stop (pc + len, L, xI c :: S, SH, P, cl, sl)
        | .aload_n _ => match Nat.beq (L.getD a1 xU).1 15 with
          | true => cRun f d k stop (pc + len, L, L.getD a1 xU :: S, SH, P, cl, sl)
          | false => none
        | .iload_n _ => match Nat.beq (L.getD a1 xU).1 0 with
          | true => cRun f d k stop (pc + len, L, L.getD a1 xU :: S, SH, P, cl, sl)
          | false => none
        | .istore_n _ => match S with
          | v :: T => match Nat.beq v.1 0 with
            | true => cRun f d k stop (pc + len, st1 L a1 v, T, SH, P, cl, sl)
            | false => none
          | _ => none
        | .iinc _ _ => match Nat.beq (L.getD a1 xU).1 0 with
          | true => cRun f d k stop (pc + len, st1 L a1 (xI (z32 ((L.getD a1 xU).2.2 + c))), S, SH, P, cl, sl)
          | false => none
        | .dup => match S with
          | v :: T => cRun f d k stop (pc + len, L, v :: v :: T, SH, P, cl, sl)
          | _ => none
        | .goto _ => cRun f d k stop (a1, L, S, SH, P, cl, sl)
        | .if_icmp _ _ => match S with
          | y :: x :: T => match Nat.beq y.1 0 && Nat.beq x.1 0 with
            | true => match decide (y.2.2 ≤ x.2.2) with
              | true => cRun f d k stop (a1, L, T, SH, P, cl, sl)
              | false => cRun f d k stop (pc + len, L, T, SH, P, cl, sl)
            | false => none
          | _ => none
        | .new _ => cRun f d k stop (pc + len, L, rV SH.length :: S, SH ++ [(13, a1)], P, cl + 1, sl + a2)
        | .newarray _ => match S with
          | v :: T => match Nat.beq v.1 0 && nin v.2.2 with
            | true => cRun f d k stop (pc + len, L, rV SH.length :: T, SH ++ [(a1, v.2.2.toNat)], P, cl + 1, sl + v.2.2.toNat)
            | false => none
          | _ => none
        | .anewarray _ => match S with
          | v :: T => match Nat.beq v.1 0 && nin v.2.2 with
            | true => cRun f d k stop (pc + len, L, rV SH.length :: T, SH ++ [(14, v.2.2.toNat)], P, cl + 1, sl + v.2.2.toNat)
            | false => none
          | _ => none
        | .multianewarray _ _ => match S with
          | w :: v :: T => match Nat.beq v.1 0 && (nin v.2.2 && (Nat.beq w.1 0 && decide (w.2.2 = 17))) with
            | true => cRun f d k stop (pc + len, L, rV SH.length :: T, mnS SH v.2.2.toNat, (1, SH.length, v.2.2.toNat, 0) :: P, cl + 1 + v.2.2.toNat, sl + v.2.2.toNat + v.2.2.toNat * 17)
            | false => none
          | _ => none
        | .putfield _ => match S with
          | w :: v :: T => match Nat.beq w.1 15 && (Nat.beq v.1 15 && decide (SH[v.2.2.toNat]? = some (13, a1))) with
            | true => cRun f d k stop (pc + len, L, T, SH, (0, v.2.2.toNat, a2, w.2.2 + 1) :: P, cl, sl)
            | false => none
          | _ => none
        | .getfield _ => match S with
          | v :: T => match Nat.beq v.1 15 && (decide (SH[v.2.2.toNat]? = some (13, a1)) && !decide (rd P v.2.2.toNat a2 = 0)) with
            | true => cRun f d k stop (pc + len, L, rV (rd P v.2.2.toNat a2 - 1).toNat :: T, SH, P, cl, sl)
            | false => none
          | _ => none
        | .aastore => match S with
          | w :: i :: v :: T => match SH[v.2.2.toNat]? with
            | some (t, n) => match Nat.beq w.1 15 && (Nat.beq i.1 0 && (Nat.beq v.1 15 && (Nat.beq t 14 && (decide (SH[w.2.2.toNat]? = some (2, 6)) && (nin i.2.2 && Nat.blt i.2.2.toNat n))))) with
              | true => cRun f d k stop (pc + len, L, T, SH, (0, v.2.2.toNat, i.2.2.toNat, w.2.2 + 1) :: P, cl, sl)
              | false => none
            | none => none
          | _ => none
        | .invokespecial _ => match S with
          | v :: T => match Nat.beq v.1 15 && Nat.ble (wid T) 8 with
            | true => match Nat.beq a1 10 with
              | true => cRun f d k stop (pc + len, L, T, SH, P, cl, sl)
              | false => match d with
                | 0 => none
                | d1 + 1 => match cRun f d1 a1 (kR a1) (0, lay [v] (kL a1), [], SH, P, 0, 0) with
                  | some (_, _, [], SH1, P1, mc, ms) => cRun f (d1 + 1) k stop (pc + len, L, T, cDone SH1 P1 v.2.2.toNat, P1, cl + mc, sl + ms)
                  | _ => none
            | false => none
          | _ => none
        | .invokevirtual _ => match S with
          | v :: T => match Nat.beq v.1 15 && (Nat.ble (wid T) 8 && (decide ((cDone SH P v.2.2.toNat)[v.2.2.toNat]? = some (2, 6)) && decide ((cDone SH P v.2.2.toNat)[v.2.2.toNat + 6]? = some (3, 16)))) with
            | true => match d with
              | 0 => none
              | d1 + 1 => cRun f (d1 + 1) k stop (pc + len, L, T, cDone SH P v.2.2.toNat, tfO v.2.2.toNat ++ P, cl, sl)
            | false => none
          | _ => none
        | _ => none
set_option maxRecDepth 100000 in
def rsEnd : Option cS := cRun 400 2 8 (kR 8) (0, lay [rV 0] 2, [], [(13, 8)], [], 0, 0)
set_option maxRecDepth 100000 in
theorem rs_some : rsEnd.isSome = true := by decide +kernel

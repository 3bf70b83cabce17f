/-! THE CLASS ASKS ITS NODES. -/
noncomputable def fC (T : TB) (v z : Int) : Nat → Bool := fun k => !lfb T (v + k * z) z
theorem nC_m (T : TB) (v z : Int) : ∀ q : Nat, q ≤ 64 → ub (nC T v z q) = bm (fC T v z) q ∧ nK T v z q = ct (fC T v z) q
  | 0, _ => ⟨rfl, rfl⟩
  | q + 1, hq => by
    obtain ⟨h1, h2⟩ := nC_m T v z q (by omega)
    show _ = bm (fC T v z) q + (if fC T v z q = true then 2 ^ q else 0) ∧ _ = ((ct (fC T v z) q + (if fC T v z q = true then 1 else 0) : Nat) : Int)
    unfold fC
    cases e : lfb T (v + q * z) z with
    | true =>
      rw [nC_y e, nK_y e]
      simp only [Bool.not_true, Bool.false_eq_true, if_false, Nat.add_zero]
      exact ⟨h1, h2⟩
    | false =>
      rw [nC_n e, nK_n e, ub_lor, h1, h2, ub_1s (by omega)]
      simp only [Bool.not_false, if_true]
      exact ⟨bm_or _ _, by unfold fC; omega⟩
theorem nR_m (T : TB) (v z : Int) : ∀ q : Nat, q ≤ 64 → ub (nR T v z q) = bm (nS T v z) q ∧ nN T v z q = ct (nS T v z) q
  | 0, _ => ⟨rfl, rfl⟩
  | q + 1, hq => by
    obtain ⟨h1, h2⟩ := nR_m T v z q (by omega)
    show _ = bm (nS T v z) q + (if nS T v z q = true then 2 ^ q else 0) ∧ _ = ((ct (nS T v z) q + (if nS T v z q = true then 1 else 0) : Nat) : Int)
    cases e : nS T v z q with
    | false =>
      rw [nR_n e, nN_n e]
      simp only [Bool.false_eq_true, if_false, Nat.add_zero]
      exact ⟨h1, h2⟩
    | true =>
      rw [nR_y e, nN_y e, ub_lor, h1, h2, ub_1s (by omega)]
      simp only [if_true]
      exact ⟨bm_or _ _, by omega⟩
theorem nC_in (T : TB) (v z : Int) : ∀ q : Nat, i64 (nC T v z q)
  | 0 => ⟨by show _ ≤ (0 : Int); decide, by show (0 : Int) < _; decide⟩
  | q + 1 => by
    have ih := nC_in T v z q
    cases e : lfb T (v + q * z) z with
    | true => rw [nC_y e]; exact ih
    | false => rw [nC_n e]; exact lor_in _ _
theorem nR_in (T : TB) (v z : Int) : ∀ q : Nat, i64 (nR T v z q)
  | 0 => ⟨by show _ ≤ (0 : Int); decide, by show (0 : Int) < _; decide⟩
  | q + 1 => by
    have ih := nR_in T v z q
    cases e : nS T v z q with
    | false => rw [nR_n e]; exact ih
    | true => rw [nR_y e]; exact lor_in _ _
/-- a leaf's hop stands where its run began -/
theorem nN_at {T : TB} {v z : Int} : ∀ q : Nat, 0 < nN T v z q → ∃ k : Nat, k < q ∧ nS T v z k = true ∧ nN T v z k = nN T v z q - 1 ∧ cod T (v + k * z) = nX T v z q
  | 0, h => absurd h (by show ¬ (0 : Int) < 0; omega)
  | q + 1, h => by
    cases e : nS T v z q with
    | true =>
      have e2 : lfb T (v + q * z) z = true := by
        cases e3 : lfb T (v + q * z) z with
        | true => rfl
        | false => rw [nS_f e3] at e; exact absurd e (by decide)
      exact ⟨q, by omega, e, by rw [nN_y e]; omega, by rw [nX_y e2]⟩
    | false =>
      rw [nN_n e] at h
      obtain ⟨k, k0, k1, k2, k3⟩ := nN_at q h
      refine ⟨k, by omega, k1, by rw [nN_n e]; exact k2, ?_⟩
      cases e2 : lfb T (v + q * z) z with
      | false => rw [nX_n e2]; exact k3
      | true =>
        rw [nX_y e2]
        have : cod T (v + q * z) = nX T v z q := by
          refine Classical.byContradiction fun z9 => ?_
          rw [nS_t e2 z9] at e
          exact absurd e (by decide)
        rw [this]; exact k3
theorem NT_lv {M : xM} {p : Int} {T : TB} (h : NT M p T) {n : Int} (n0 : 0 ≤ n) : ∀ k : Nat, (k : Int) ≤ tZ T → n < M (p + 12) k → ∃ l : Int, 0 ≤ l ∧ l < k ∧ M (p + 12) l ≤ n ∧ n < M (p + 12) (l + 1)
  | 0, _, hn => by
    have := h.2.1.1
    have e : M (p + 12) ((0 : Nat) : Int) = 0 := this
    omega
  | k + 1, hk, hn => by
    by_cases e : n < M (p + 12) k
    · obtain ⟨l, l0, l1, l2, l3⟩ := NT_lv h n0 k (by omega) e
      exact ⟨l, l0, by omega, l2, l3⟩
    · exact ⟨k, by omega, by omega, by omega, hn⟩
/-- what there is to say of a node -/
def NA (M : xM) (p : Int) (T : TB) (n l : Int) : Prop := (0 ≤ l ∧ l < tZ T) ∧ (M (p + 12) l ≤ n ∧ n < M (p + 12) (l + 1)) ∧ M (p + 2) n = l ∧ ndOk T l (M (p + 1) n) ∧ M (p + 1) n % wd (tB (tS T) l.toNat) = 0 ∧ FD M p T n l (M (p + 12) (l + 1)) (if l + 1 < tZ T then M (p + 12) (l + 2) else M p 0)
theorem NT_nd {M : xM} {p : Int} {T : TB} (hw : tWF T) (h : NT M p T) {n l : Int} (l0 : 0 ≤ l) (l1 : l < tZ T) (n0 : M (p + 12) l ≤ n) (n1 : n < M (p + 12) (l + 1)) : NA M p T n l := by
  obtain ⟨a1, a2⟩ := h.2.2.2.2 l l0 l1
  obtain ⟨a3, a4⟩ := a2 n n0 n1
  refine ⟨⟨l0, l1⟩, ⟨n0, n1⟩, a3, ?_, ?_, a4⟩
  · by_cases e : l = 0
    · subst e
      have h9 := h.2.1
      have en : n = 0 := by
        have : M (p + 12) (0 + 1) = 1 := h9.2.1
        omega
      rw [en, h.2.2.1.1]
      exact ⟨⟨l0, l1⟩, by decide, by show 0 + wd 0 ≤ _; rw [wd_0]; decide⟩
    · have hs := h.2.2.2.1 l (by omega) l1
      have hx := hs.2.2.1 n n0 n1
      have hb := tB_hi hw l0 (by omega)
      have hd : wd (tB (tS T) l.toNat) ∣ 4294967296 := by
        have := wd_dvd (m := 0) (n := tB (tS T) l.toNat) (by omega)
        rw [wd_0] at this
        exact this
      refine ⟨⟨l0, l1⟩, hx.1.1, ?_⟩
      have hp := wd_pos (tB (tS T) l.toNat)
      obtain ⟨c, hc⟩ := hd
      obtain ⟨e9, he9⟩ := Int.dvd_of_emod_eq_zero hx.2.1
      have hlt := hx.1.2
      rw [he9] at hlt ⊢
      rw [hc] at hlt ⊢
      have : e9 < c := Int.lt_of_mul_lt_mul_left hlt (Int.le_of_lt hp)
      have h3 : wd (tB (tS T) l.toNat) * (e9 + 1) ≤ wd (tB (tS T) l.toNat) * c := Int.mul_le_mul_of_nonneg_left (by omega) (Int.le_of_lt hp)
      rw [Int.mul_add, Int.mul_one] at h3
      exact h3
  · by_cases e : l = 0
    · subst e
      have h9 := h.2.1
      have en : n = 0 := by
        have : M (p + 12) (0 + 1) = 1 := h9.2.1
        omega
      rw [en, h.2.2.1.1]
      exact Int.zero_emod _
    · have hs := h.2.2.2.1 l (by omega) l1
      exact (hs.2.2.1 n n0 n1).2.1
theorem NT_at {M : xM} {p : Int} {T : TB} (hw : tWF T) (h : NT M p T) {n : Int} (n0 : 0 ≤ n) (n1 : n < M p 0) : ∃ l : Int, NA M p T n l := by
  have hz := hw.2.2.2.2.2.1
  obtain ⟨l, l0, l1, l2, l3⟩ := NT_lv h n0 (tZ T).toNat (by omega) (by rw [show ((tZ T).toNat : Int) = tZ T by omega, h.2.1.2.2.1]; exact n1)
  exact ⟨l, NT_nd hw h l0 (by omega) l2 l3⟩
theorem NT_mono {M : xM} {p : Int} {T : TB} (h : NT M p T) {i : Int} (i0 : 0 ≤ i) : ∀ k : Nat, i + k ≤ tZ T → M (p + 12) i ≤ M (p + 12) (i + k)
  | 0, _ => by rw [show i + ((0 : Nat) : Int) = i by omega]; exact Int.le_refl _
  | k + 1, hk => by
    have ih := NT_mono h i0 k (by omega)
    have h2 := (h.2.2.2.2 (i + k) (by omega) (by omega)).1
    rw [show i + ((k + 1 : Nat) : Int) = i + k + 1 by omega]
    omega
theorem NT_le {M : xM} {p : Int} {T : TB} (h : NT M p T) {i j : Int} (i0 : 0 ≤ i) (ij : i ≤ j) (j1 : j ≤ tZ T) : M (p + 12) i ≤ M (p + 12) j := by
  have := NT_mono h i0 (j - i).toNat (by omega)
  rw [show i + ((j - i).toNat : Int) = j by omega] at this
  exact this
theorem NA_u {M : xM} {p : Int} {T : TB} (h : NT M p T) {n l k : Int} (a : NA M p T n l) (b : NA M p T n k) : l = k := by
  have e1 := a.2.2.1
  have e2 := b.2.2.1
  omega
theorem NA_b {M : xM} {p : Int} {T : TB} (h : NT M p T) {n l : Int} (a : NA M p T n l) : 0 ≤ n ∧ n < M p 0 ∧ n < 901 := by
  have h1 := NT_le h (i := 0) (j := l) (by decide) a.1.1 (by have := a.1.2; omega)
  have h2 := NT_le h (i := l + 1) (j := tZ T) (by have := a.1; omega) (by have := a.1; omega) (Int.le_refl _)
  have h3 := h.2.1
  have h4 := a.2.1
  omega
section NodeOps
variable {d : Nat} {M : xM} {Q : xQ} {T : TB} {p : Int}
theorem qNodes_has {n : Int} (h9 : M p 0 ≤ 901) (h1 : 0 ≤ n → n < M p 0 → Q (xI 1) M) (h0 : ¬ (0 ≤ n ∧ n < M p 0) → Q (xI 0) M) : Ru d kNodes_has 0 [xO 3 p, xI n] [] M Q :=
  vNodes_has_0 ⟨fun q => h0 (by omega), fun q => ⟨fun q2 => h0 (by omega), fun q2 => ⟨fun q3 => h0 (by omega), fun q3 => h1 (by omega) (by omega)⟩⟩⟩
theorem qNodes_slotsOf {n l : Int} (hw : tWF T) (hN : NT M p T) (ha : NA M p T n l) (h : Q (xI (2 ^ (tS T l).toNat)) M) : Ru (d + 1) kNodes_slotsOf 0 [xO 3 p, xI n] [] M Q := by
  have hb := NA_b hN ha
  have hs := hw.2.2.2.2.2.2.1 l ha.1.1 ha.1.2
  have hz := hw.2.2.2.2.2.1
  have hl := ha.1
  refine vNodes_slotsOf_0 (qNodes_has hN.2.1.2.2.2.1 (fun _ _ => vNodes_slotsOf_5 ⟨fun z => absurd z (by decide), fun _ => ⟨by omega, ?_⟩⟩) (fun z => absurd ⟨hb.1, hb.2.1⟩ z))
  rw [ha.2.2.1, hN.1.2.1 l ha.1.1 ha.1.2, ishl_p (by omega) (by omega)]
  exact ⟨by omega, h⟩
theorem qNodes_slotsOf0 {n : Int} (hN : NT M p T) (hn : ¬ (0 ≤ n ∧ n < M p 0)) (h : Q (xI 0) M) : Ru (d + 1) kNodes_slotsOf 0 [xO 3 p, xI n] [] M Q :=
  vNodes_slotsOf_0 (qNodes_has hN.2.1.2.2.2.1 (fun a b => absurd ⟨a, b⟩ hn) (fun _ => vNodes_slotsOf_5 ⟨fun _ => h, fun z => absurd rfl z⟩))
theorem qNodes_childAt {n l q : Int} (hw : tWF T) (hN : NT M p T) (ha : NA M p T n l) (q0 : 0 ≤ q) (q1 : q < 2 ^ (tS T l).toNat) (h1 : lfp T (M (p + 1) n + q * wd (tB (tS T) (l + 1).toNat)) (wd (tB (tS T) (l + 1).toNat)) → Q (xI (-1)) M) (h2 : ∀ c : Int, ¬ lfp T (M (p + 1) n + q * wd (tB (tS T) (l + 1).toNat)) (wd (tB (tS T) (l + 1).toNat)) → l + 1 < tZ T → NA M p T c (l + 1) → M (p + 1) c = M (p + 1) n + q * wd (tB (tS T) (l + 1).toNat) → M (p + 5) c = n → c = M (p + 6) n + nK T (M (p + 1) n) (wd (tB (tS T) (l + 1).toNat)) q.toNat → Q (xI c) M) : Ru (d + 2) kNodes_childAt 0 [xO 3 p, xI n, xI q] [] M Q := by
  have hb := NA_b hN ha
  have hs := hw.2.2.2.2.2.2.1 l ha.1.1 ha.1.2
  have hpp := p26 hs.1 hs.2
  obtain ⟨k, rfl⟩ := nat_of q0
  have hk : k < 2 ^ (tS T l).toNat := by
    rw [p2i] at q1
    omega
  have h64 : (2 : Nat) ^ (tS T l).toNat ≤ 64 := by rw [p2i] at hpp; omega
  obtain ⟨hF, hF1, hF2, hF3⟩ := ha.2.2.2.2.2
  obtain ⟨f3, f4, f6, f8, f8', f9, f1⟩ := hF
  obtain ⟨m1, m2⟩ := nC_m T (M (p + 1) n) (wd (tB (tS T) (l + 1).toNat)) (2 ^ (tS T l).toNat) h64
  obtain ⟨m3, m4⟩ := nC_m T (M (p + 1) n) (wd (tB (tS T) (l + 1).toNat)) k (by omega)
  refine vNodes_childAt_0 (qNodes_has hN.2.1.2.2.2.1 (fun _ _ => vNodes_childAt_5 ⟨fun z => absurd z (by decide), fun _ => ⟨fun z => by omega, fun _ => ?_⟩⟩) (fun z => absurd ⟨hb.1, hb.2.1⟩ z))
  refine qNodes_slotsOf hw hN ha (vNodes_childAt_18 ⟨fun z => by omega, fun _ => ⟨by omega, ?_⟩⟩)
  rw [land_bit (by omega), f3]
  have et : tb (nC T (M (p + 1) n) (wd (tB (tS T) (l + 1).toNat)) (2 ^ (tS T l).toNat)) k = !lfb T (M (p + 1) n + k * wd (tB (tS T) (l + 1).toNat)) (wd (tB (tS T) (l + 1).toNat)) := by
    unfold tb
    rw [m1, bm_bit, decide_eq_true hk, Bool.true_and]
    rfl
  rw [et]
  cases e : lfb T (M (p + 1) n + k * wd (tB (tS T) (l + 1).toNat)) (wd (tB (tS T) (l + 1).toNat)) with
  | true =>
    refine ⟨fun z => absurd rfl z, fun _ => h1 ?_⟩
    refine Classical.byContradiction fun z => ?_
    rw [lfb_f z] at e
    exact absurd e (by decide)
  | false =>
    have hnl : ¬ lfp T (M (p + 1) n + k * wd (tB (tS T) (l + 1).toNat)) (wd (tB (tS T) (l + 1).toNat)) := fun z => by
      rw [lfb_t z] at e
      exact absurd e (by decide)
    refine ⟨fun _ => ⟨by omega, by omega, qJ_bitCount (vNodes_childAt_59 ?_)⟩, fun z => absurd (by decide) z⟩
    rw [ub_land, ub_m1 (by omega), pcn_low m1 (by omega) (by omega), ← m4]
    have kb := nK_b T (M (p + 1) n) (wd (tB (tS T) (l + 1).toNat)) k
    have kmono := nK_mono (T := T) (v := M (p + 1) n) (z := wd (tB (tS T) (l + 1).toNat)) (show k + 1 ≤ 2 ^ (tS T l).toNat by omega)
    rw [nK_n e] at kmono
    have hl1 : l + 1 < tZ T := by
      refine Classical.byContradiction fun z9 => hnl ?_
      have el : l + 1 = tZ T := by have := ha.1; omega
      rw [el, hw.2.2.2.2.2.2.2, wd_32]
      intro a a0 a1
      rw [show a = M (p + 1) n + k * 1 by omega]
    rw [if_pos hl1] at hF2
    have hle := NT_le hN (i := l + 2) (j := tZ T) (by have := ha.1; omega) (by omega) (Int.le_refl _)
    have hge := NT_le hN (i := 0) (j := l + 1) (by decide) (by have := ha.1; omega) (by omega)
    have h9 := hN.2.1
    obtain ⟨g1, g2, g3⟩ := f1 k hk e
    rw [z32_id (by omega) (by omega)]
    exact h2 _ hnl hl1 (NT_nd hw hN (by have := ha.1; omega) hl1 (by omega) (by rw [show l + 1 + 1 = l + 2 by omega]; omega)) g1 g3 rfl
theorem qNodes_placeAt {n l q : Int} (hw : tWF T) (hN : NT M p T) (ha : NA M p T n l) (q0 : 0 ≤ q) (q1 : q < 2 ^ (tS T l).toNat) (h : Q (xI (nN T (M (p + 1) n) (wd (tB (tS T) (l + 1).toNat)) (q + 1).toNat - 1)) M) : Ru (d + 1) kNodes_placeAt 0 [xO 3 p, xI n, xI q] [] M Q := by
  have hb := NA_b hN ha
  have hs := hw.2.2.2.2.2.2.1 l ha.1.1 ha.1.2
  have hpp := p26 hs.1 hs.2
  obtain ⟨k, rfl⟩ := nat_of q0
  have hk : k < 2 ^ (tS T l).toNat := by
    rw [p2i] at q1
    omega
  have h64 : (2 : Nat) ^ (tS T l).toNat ≤ 64 := by rw [p2i] at hpp; omega
  obtain ⟨hF, hF1, hF2, hF3⟩ := ha.2.2.2.2.2
  obtain ⟨f3, f4, f6, f8, f8', f9, f1⟩ := hF
  obtain ⟨m1, m2⟩ := nR_m T (M (p + 1) n) (wd (tB (tS T) (l + 1).toNat)) (2 ^ (tS T l).toNat) h64
  obtain ⟨m3, m4⟩ := nR_m T (M (p + 1) n) (wd (tB (tS T) (l + 1).toNat)) (k + 1) (by omega)
  have nb := nN_b T (M (p + 1) n) (wd (tB (tS T) (l + 1).toNat)) (k + 1)
  refine vNodes_placeAt_0 ⟨by omega, qJ_bitCount (vNodes_placeAt_17 ?_)⟩
  rw [f4, ub_land, ub_m2 (by omega), pcn_low m1 (by omega) (by omega), ← m4, z32_id (by omega) (by omega)]
  exact h
theorem qNodes_leafHop {n l q : Int} (hw : tWF T) (hN : NT M p T) (ha : NA M p T n l) (q0 : 0 ≤ q) (q1 : q < 2 ^ (tS T l).toNat) (hl : lfp T (M (p + 1) n + q * wd (tB (tS T) (l + 1).toNat)) (wd (tB (tS T) (l + 1).toNat))) (h : Q (xI (hp T (M (p + 1) n + q * wd (tB (tS T) (l + 1).toNat)))) M) : Ru (d + 2) kNodes_leafHop 0 [xO 3 p, xI n, xI q, xU] [] M Q := by
  have hb := NA_b hN ha
  obtain ⟨hF, hF1, hF2, hF3, hF4⟩ := ha.2.2.2.2.2
  obtain ⟨f3, f4, f6, f8, f8', f9, f1⟩ := hF
  refine vNodes_leafHop_0 (qNodes_has hN.2.1.2.2.2.1 (fun _ _ => vNodes_leafHop_5 ⟨fun z => absurd z (by decide), fun _ => ⟨fun z => by omega, fun _ => ?_⟩⟩) (fun z => absurd ⟨hb.1, hb.2.1⟩ z))
  refine qNodes_slotsOf hw hN ha (vNodes_leafHop_18 ⟨fun _ => ⟨by omega, ?_⟩, fun z => absurd q1 z⟩)
  refine qNodes_placeAt hw hN ha q0 q1 (vNodes_leafHop_35 ?_)
  obtain ⟨k, rfl⟩ := nat_of q0
  have hk : k < 2 ^ (tS T l).toNat := by
    rw [p2i] at q1
    omega
  rw [show ((k : Int) + 1).toNat = k + 1 by omega]
  have elb := lfb_t hl
  have ex := nX_y elb
  have hpos : 0 < nN T (M (p + 1) n) (wd (tB (tS T) (l + 1).toNat)) (k + 1) := by
    have hb2 := nN_b T (M (p + 1) n) (wd (tB (tS T) (l + 1).toNat)) (k + 1)
    refine Classical.byContradiction fun z9 => ?_
    have e0 := (nN_X hw (M (p + 1) n) (wd (tB (tS T) (l + 1).toNat)) (k + 1)).mp (by omega)
    rw [ex] at e0
    have := cod_ge hw (M (p + 1) n + k * wd (tB (tS T) (l + 1).toNat))
    omega
  obtain ⟨j, j0, j1, j2, j3⟩ := nN_at (k + 1) hpos
  have jb := nN_b T (M (p + 1) n) (wd (tB (tS T) (l + 1).toNat)) j
  have jm := nN_mono (T := T) (v := M (p + 1) n) (z := wd (tB (tS T) (l + 1).toNat)) (show j + 1 ≤ 2 ^ (tS T l).toNat by omega)
  rw [nN_y j1] at jm
  have h16 := hN.2.1.2.2.2.2
  rw [← j2, z32_id (by omega) (by omega)]
  refine ⟨fun z => by omega, fun _ => ⟨fun z => by omega, fun _ => ⟨by omega, ?_⟩⟩⟩
  rw [(f9 j (by omega) j1).1]
  rw [ex] at j3
  rw [(hp_cod hw _ _).mpr j3]
  exact h
theorem qNodes_storedBy {n l : Int} (hN : NT M p T) (ha : NA M p T n l) (h : Q (xI (nN T (M (p + 1) n) (wd (tB (tS T) (l + 1).toNat)) (2 ^ (tS T l).toNat))) M) : Ru (d + 1) kNodes_storedBy 0 [xO 3 p, xI n] [] M Q := by
  have hb := NA_b hN ha
  obtain ⟨hF, hF1, hF2, hF3, hF4⟩ := ha.2.2.2.2.2
  obtain ⟨f3, f4, f6, f8, f8', f9, f1⟩ := hF
  have nb := nN_b T (M (p + 1) n) (wd (tB (tS T) (l + 1).toNat)) (2 ^ (tS T l).toNat)
  have h16 := hN.2.1.2.2.2.2
  refine vNodes_storedBy_0 (qNodes_has hN.2.1.2.2.2.1 (fun _ _ => vNodes_storedBy_5 ⟨fun z => absurd z (by decide), fun _ => ?_⟩) (fun z => absurd ⟨hb.1, hb.2.1⟩ z))
  rw [z32_id (x := n + 1) (by omega) (by omega), f8', z32_id (by omega) (by omega), show M (p + 8) n + nN T (M (p + 1) n) (wd (tB (tS T) (l + 1).toNat)) (2 ^ (tS T l).toNat) - M (p + 8) n = nN T (M (p + 1) n) (wd (tB (tS T) (l + 1).toNat)) (2 ^ (tS T l).toNat) by omega]
  exact ⟨by omega, by omega, h⟩
theorem nN_surj {T : TB} {v z : Int} : ∀ (P : Nat) (t : Int), 0 ≤ t → t < nN T v z P → ∃ k : Nat, k < P ∧ nS T v z k = true ∧ nN T v z k = t
  | 0, t, t0, t1 => absurd t1 (by show ¬ t < 0; omega)
  | P + 1, t, t0, t1 => by
    cases hl : nS T v z P with
    | false =>
      rw [nN_n hl] at t1
      obtain ⟨k, k0, k1, k2⟩ := nN_surj P t t0 t1
      exact ⟨k, by omega, k1, k2⟩
    | true =>
      rw [nN_y hl] at t1
      by_cases e : t = nN T v z P
      · exact ⟨P, by omega, hl, e.symm⟩
      · obtain ⟨k, k0, k1, k2⟩ := nN_surj (T := T) (v := v) (z := z) P t t0 (by omega)
        exact ⟨k, by omega, k1, k2⟩
theorem qNodes_storedAt {n l i : Int} (hN : NT M p T) (ha : NA M p T n l) (h0 : ¬ (0 ≤ i ∧ i < nN T (M (p + 1) n) (wd (tB (tS T) (l + 1).toNat)) (2 ^ (tS T l).toNat)) → Q (xI (-2)) M) (h1 : ∀ k : Nat, k < 2 ^ (tS T l).toNat → nS T (M (p + 1) n) (wd (tB (tS T) (l + 1).toNat)) k = true → nN T (M (p + 1) n) (wd (tB (tS T) (l + 1).toNat)) k = i → Q (xI (hp T (M (p + 1) n + k * wd (tB (tS T) (l + 1).toNat)))) M) : Ru (d + 1) kNodes_storedAt 0 [xO 3 p, xI n, xI i] [] M Q := by
  have hb := NA_b hN ha
  obtain ⟨hF, hF1, hF2, hF3, hF4⟩ := ha.2.2.2.2.2
  obtain ⟨f3, f4, f6, f8, f8', f9, f1⟩ := hF
  have nb := nN_b T (M (p + 1) n) (wd (tB (tS T) (l + 1).toNat)) (2 ^ (tS T l).toNat)
  have h16 := hN.2.1.2.2.2.2
  refine vNodes_storedAt_0 (qNodes_has hN.2.1.2.2.2.1 (fun _ _ => vNodes_storedAt_5 ⟨fun z => absurd z (by decide), fun _ => ⟨fun z => h0 (by omega), fun z => ?_⟩⟩) (fun z => absurd ⟨hb.1, hb.2.1⟩ z))
  rw [z32_id (x := n + 1) (by omega) (by omega), f8', z32_id (x := M (p + 8) n + nN T (M (p + 1) n) (wd (tB (tS T) (l + 1).toNat)) (2 ^ (tS T l).toNat) - M (p + 8) n) (by omega) (by omega), show M (p + 8) n + nN T (M (p + 1) n) (wd (tB (tS T) (l + 1).toNat)) (2 ^ (tS T l).toNat) - M (p + 8) n = nN T (M (p + 1) n) (wd (tB (tS T) (l + 1).toNat)) (2 ^ (tS T l).toNat) by omega]
  refine ⟨by omega, by omega, fun z2 => h0 (by omega), fun z2 => ?_⟩
  obtain ⟨k, k0, k1, k2⟩ := nN_surj (T := T) (v := M (p + 1) n) (z := wd (tB (tS T) (l + 1).toNat)) (2 ^ (tS T l).toNat) i (by omega) (by omega)
  rw [z32_id (by omega) (by omega), ← k2, (f9 k k0 k1).1]
  exact ⟨by omega, by omega, h1 k k0 k1 k2⟩
theorem qNodes_storedAt0 {n i : Int} (hN : NT M p T) (hn : ¬ (0 ≤ n ∧ n < M p 0)) (h : Q (xI (-2)) M) : Ru (d + 1) kNodes_storedAt 0 [xO 3 p, xI n, xI i] [] M Q :=
  vNodes_storedAt_0 (qNodes_has hN.2.1.2.2.2.1 (fun a b => absurd ⟨a, b⟩ hn) (fun _ => vNodes_storedAt_5 ⟨fun _ => h, fun z => absurd rfl z⟩))
end NodeOps

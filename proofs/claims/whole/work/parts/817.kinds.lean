/-! KINDS OF NODES: what they are. -/
theorem bm_inj {f g : Nat → Bool} {P : Nat} (h : bm f P = bm g P) {j : Nat} (hj : j < P) : f j = g j := by
  have h1 := bm_bit f P j
  have h2 := bm_bit g P j
  rw [h, decide_eq_true hj, Bool.true_and] at h1
  rw [decide_eq_true hj, Bool.true_and] at h2
  rw [← h1, ← h2]
theorem same_to {T : TB} {v w z : Int} {P : Nat} (hw : tWF T) (hP : P ≤ 64) (h : sameV T v z P T w z P) : ∀ q : Nat, q < P → lfb T (v + q * z) z = lfb T (w + q * z) z ∧ (lfb T (v + q * z) z = true → cod T (v + q * z) = cod T (w + q * z)) := by
  obtain ⟨h1, h2, h3, h4⟩ := h
  have c1 := (nC_m T v z P hP).1
  have c2 := (nC_m T w z P hP).1
  have r1 := (nR_m T v z P hP).1
  have r2 := (nR_m T w z P hP).1
  rw [h1, c2] at c1
  rw [h2, r2] at r1
  have hl : ∀ q : Nat, q < P → lfb T (v + q * z) z = lfb T (w + q * z) z := fun q hq => by
    have := bm_inj c1 hq
    unfold fC at this
    have h5 := congrArg (fun b => !b) this
    simp only [Bool.not_not] at h5
    exact h5.symm
  have hs : ∀ q : Nat, q < P → nS T v z q = nS T w z q := fun q hq => (bm_inj r1 hq).symm
  have hn : ∀ q : Nat, q ≤ P → nN T v z q = nN T w z q := fun q => by
    induction q with
    | zero => intro _; rfl
    | succ q ih =>
      intro hq
      have h5 := hs q (by omega)
      cases e : nS T v z q with
      | true => rw [nN_y e, nN_y (by rw [← h5]; exact e), ih (by omega)]
      | false => rw [nN_n e, nN_n (by rw [← h5]; exact e), ih (by omega)]
  refine fun q hq => ⟨hl q hq, fun e => ?_⟩
  have e2 : lfb T (w + q * z) z = true := by rw [← hl q hq]; exact e
  have x1 := nX_y e
  have x2 := nX_y e2
  have pos : ∀ u : Int, lfb T (u + q * z) z = true → 0 < nN T u z (q + 1) := fun u eu => by
    have hb := nN_b T u z (q + 1)
    refine Classical.byContradiction fun z9 => ?_
    have e0 := (nN_X hw u z (q + 1)).mp (by omega)
    rw [nX_y eu] at e0
    have := cod_ge hw (u + q * z)
    omega
  obtain ⟨j, j0, j1, j2, j3⟩ := nN_at (q + 1) (pos v e)
  obtain ⟨k, k0, k1, k2, k3⟩ := nN_at (q + 1) (pos w e2)
  rw [← x1, ← x2, ← j3, ← k3]
  exact h4 j k (by omega) (by omega) j1 k1 (by rw [j2, k2, hn (q + 1) (by omega)])
theorem same_of {T : TB} {v w z : Int} {P : Nat} (h : ∀ q : Nat, q < P → lfb T (v + q * z) z = lfb T (w + q * z) z ∧ (lfb T (v + q * z) z = true → cod T (v + q * z) = cod T (w + q * z))) : sameV T v z P T w z P ∧ nK T v z P = nK T w z P ∧ ∀ q : Nat, q ≤ P → nN T v z q = nN T w z q ∧ nK T v z q = nK T w z q ∧ (q < P → nS T v z q = nS T w z q) := by
  have key : ∀ q : Nat, q ≤ P → nC T v z q = nC T w z q ∧ nR T v z q = nR T w z q ∧ nN T v z q = nN T w z q ∧ nX T v z q = nX T w z q ∧ nK T v z q = nK T w z q := fun q => by
    induction q with
    | zero => intro _; exact ⟨rfl, rfl, rfl, rfl, rfl⟩
    | succ q ih =>
      intro hq
      obtain ⟨i1, i2, i3, i4, i5⟩ := ih (by omega)
      obtain ⟨g1, g2⟩ := h q (by omega)
      cases e : lfb T (v + q * z) z with
      | false =>
        have e2 : lfb T (w + q * z) z = false := by rw [← g1]; exact e
        rw [nC_n e, nC_n e2, nR_n (nS_f e), nR_n (nS_f e2), nN_n (nS_f e), nN_n (nS_f e2), nX_n e, nX_n e2, nK_n e, nK_n e2, i1, i2, i3, i4, i5]
        exact ⟨rfl, rfl, rfl, rfl, rfl⟩
      | true =>
        have e2 : lfb T (w + q * z) z = true := by rw [← g1]; exact e
        have g3 := g2 e
        rw [nC_y e, nC_y e2, nX_y e, nX_y e2, nK_y e, nK_y e2, i1, i5]
        by_cases ex : cod T (v + q * z) = nX T v z q
        · have s1 := nS_e ex
          have s2 : nS T w z q = false := nS_e (by rw [← g3, ← i4]; exact ex)
          rw [nR_n s1, nR_n s2, nN_n s1, nN_n s2, i2, i3]
          exact ⟨rfl, rfl, rfl, g3, rfl⟩
        · have s1 := nS_t e ex
          have s2 : nS T w z q = true := nS_t e2 (by rw [← g3, ← i4]; exact ex)
          rw [nR_y s1, nR_y s2, nN_y s1, nN_y s2, i2, i3]
          exact ⟨rfl, rfl, rfl, g3, rfl⟩
  have hs : ∀ q : Nat, q < P → nS T v z q = nS T w z q := fun q hq => by
    obtain ⟨i1, i2, i3, i4, i5⟩ := key q (by omega)
    obtain ⟨g1, g2⟩ := h q hq
    cases e : lfb T (v + q * z) z with
    | false => rw [nS_f e, nS_f (by rw [← g1]; exact e)]
    | true =>
      have e2 : lfb T (w + q * z) z = true := by rw [← g1]; exact e
      have g3 := g2 e
      by_cases ex : cod T (v + q * z) = nX T v z q
      · rw [nS_e ex, nS_e (by rw [← g3, ← i4]; exact ex)]
      · rw [nS_t e ex, nS_t e2 (by rw [← g3, ← i4]; exact ex)]
  obtain ⟨k1, k2, k3, -, k5⟩ := key P (Nat.le_refl _)
  refine ⟨⟨k1, k2, k3, fun j k hj hk sj sk e => ?_⟩, k5, fun q hq => ⟨(key q hq).2.2.1, (key q hq).2.2.2.2, fun h9 => hs q h9⟩⟩
  have ek : nS T v z k = true := by rw [hs k hk]; exact sk
  have ej : j = k := nS_u sj ek (by rw [e, (key k (by omega)).2.2.1])
  subst ej
  have e1 : lfb T (v + j * z) z = true := by
    cases e3 : lfb T (v + j * z) z with
    | true => rfl
    | false => rw [nS_f e3] at sj; exact absurd sj (by decide)
  exact (h j hj).2 e1
section Kinds
variable {T : TB} {s : Int} {lf vl lv K : Int → Int}
/-- a node leads on to another by a slot -/
def chd (T : TB) (lf vl : Int → Int) (l n : Int) (q : Nat) (c : Int) : Prop := (lf (l + 1) ≤ c ∧ c < lf (l + 2)) ∧ vl c = vl n + q * wd (tB (tS T) (l + 1).toNat)
def isLike (T : TB) (lf vl K : Int → Int) (l a b : Int) : Prop := ∀ q : Nat, q < 2 ^ (tS T l).toNat → lfb T (vl a + q * wd (tB (tS T) (l + 1).toNat)) (wd (tB (tS T) (l + 1).toNat)) = lfb T (vl b + q * wd (tB (tS T) (l + 1).toNat)) (wd (tB (tS T) (l + 1).toNat)) ∧ (lfb T (vl a + q * wd (tB (tS T) (l + 1).toNat)) (wd (tB (tS T) (l + 1).toNat)) = true → cod T (vl a + q * wd (tB (tS T) (l + 1).toNat)) = cod T (vl b + q * wd (tB (tS T) (l + 1).toNat))) ∧ (lfb T (vl a + q * wd (tB (tS T) (l + 1).toNat)) (wd (tB (tS T) (l + 1).toNat)) = false → ∀ c e : Int, chd T lf vl l a q c → chd T lf vl l b q e → K c = K e)
theorem chd_ex (hw : tWF T) (h : isNum T s lf vl lv) {l n : Int} {q : Nat} (ha : nAt T lf vl lv n l) (hq : q < 2 ^ (tS T l).toNat) (hl : lfb T (vl n + q * wd (tB (tS T) (l + 1).toNat)) (wd (tB (tS T) (l + 1).toNat)) = false) : l + 1 < tZ T ∧ ∃ c : Int, chd T lf vl l n q c := by
  have hnl := lfb_nl hl
  have hl1 : l + 1 < tZ T := by
    refine Classical.byContradiction fun z9 => hnl ?_
    have el : l + 1 = tZ T := by have := ha.1; omega
    rw [el, hw.2.2.2.2.2.2.2, wd_32]
    intro a a0 a1
    rw [show a = vl n + q * 1 by omega]
  refine ⟨hl1, ?_⟩
  have hs := nd_sl hw ha.2.2.2.1
  have hs2 := hs.2 (q : Int) (by omega) (by rw [p2i]; omega)
  have hp := wd_pos (tB (tS T) (l + 1).toNat)
  have hv := ha.2.2.2.1.2
  have hmod : (vl n + q * wd (tB (tS T) (l + 1).toNat)) % wd (tB (tS T) (l + 1).toNat) = 0 := by
    rw [Int.add_mul_emod_self_right]
    exact mod_dvd ha.2.2.2.2.1 ⟨2 ^ (tS T l).toNat, by rw [hs.1, Int.mul_comm]⟩
  obtain ⟨c, c0, c1, c2⟩ := num_ex h (l := l + 1) (by have := ha.1; omega) hl1 ⟨⟨by omega, by omega⟩, hmod, hnl⟩
  exact ⟨c, ⟨c0, by rw [show l + 2 = l + 1 + 1 by omega]; exact c1⟩, c2⟩
theorem chd_u (h : isNum T s lf vl lv) {l n : Int} {q : Nat} (l0 : 0 ≤ l) (l1 : l + 1 < tZ T) {c e : Int} (hc : chd T lf vl l n q c) (he : chd T lf vl l n q e) : c = e :=
  num_inj h (l := l + 1) (by omega) l1 hc.1.1 (by rw [show l + 1 + 1 = l + 2 by omega]; exact hc.1.2) he.1.1 (by rw [show l + 1 + 1 = l + 2 by omega]; exact he.1.2) (by rw [hc.2, he.2])
theorem like_refl (hw : tWF T) (h : isNum T s lf vl lv) {l a : Int} (ha : nAt T lf vl lv a l) : isLike T lf vl K l a a := fun q hq => ⟨rfl, fun _ => rfl, fun hl c e hc he => by
  have := (chd_ex hw h ha hq hl).1
  rw [chd_u h ha.1.1 this hc he]⟩
theorem like_symm {l a b : Int} (h : isLike T lf vl K l a b) : isLike T lf vl K l b a := fun q hq => by
  obtain ⟨h1, h2, h3⟩ := h q hq
  exact ⟨h1.symm, fun e => (h2 (by rw [h1]; exact e)).symm, fun e c c2 hc hc2 => (h3 (by rw [h1]; exact e) c2 c hc2 hc).symm⟩
theorem like_trans (hw : tWF T) (h : isNum T s lf vl lv) {l a b c : Int} (hb : nAt T lf vl lv b l) (h1 : isLike T lf vl K l a b) (h2 : isLike T lf vl K l b c) : isLike T lf vl K l a c := fun q hq => by
  obtain ⟨a1, a2, a3⟩ := h1 q hq
  obtain ⟨b1, b2, b3⟩ := h2 q hq
  refine ⟨by rw [a1, b1], fun e => by rw [a2 e, b2 (by rw [← a1]; exact e)], fun e x y hx hy => ?_⟩
  obtain ⟨-, m, hm⟩ := chd_ex hw h hb hq (by rw [← a1]; exact e)
  rw [a3 e x m hx hm, b3 (by rw [← a1]; exact e) m y hm hy]
/-- the least node of its level that is like it -/
def isKn (T : TB) (lf vl K : Int → Int) (l n : Int) : Prop := (lf l ≤ K n ∧ K n ≤ n) ∧ K (K n) = K n ∧ isLike T lf vl K l (K n) n ∧ ∀ o : Int, lf l ≤ o → o < K n → K o = o → ¬ isLike T lf vl K l o n
def isKind (T : TB) (lf vl K : Int → Int) : Prop := ∀ l n : Int, 0 ≤ l → l < tZ T → lf l ≤ n → n < lf (l + 1) → isKn T lf vl K l n
theorem like_cg {K2 : Int → Int} {lf2 vl2 : Int → Int} (h : isNum T s lf vl lv) {l a b : Int} (l0 : 0 ≤ l) (l1 : l < tZ T) (a0 : lf l ≤ a) (a1 : a < lf (l + 1)) (b0 : lf l ≤ b) (b1 : b < lf (l + 1)) (el : ∀ l : Int, 0 ≤ l → l ≤ tZ T → lf2 l = lf l) (ev : ∀ n : Int, 0 ≤ n → n < s → vl2 n = vl n) (eK : l + 1 < tZ T → ∀ n : Int, lf (l + 1) ≤ n → n < lf (l + 2) → K2 n = K n) (hl : isLike T lf vl K l a b) (hw : tWF T) : isLike T lf2 vl2 K2 l a b := by
  have m0 := num_mono h (i := 0) (j := l) (by decide) l0 (by omega)
  have m1 := num_mono h (i := l + 1) (j := tZ T) (by omega) (by omega) (Int.le_refl _)
  have h1 := h.1
  intro q hq
  have ea := ev a (by omega) (by omega)
  have eb := ev b (by omega) (by omega)
  rw [ea, eb]
  obtain ⟨g1, g2, g3⟩ := hl q hq
  refine ⟨g1, g2, fun e x y hx hy => ?_⟩
  have ha := num_nd hw h l0 l1 a0 a1
  have hl1 := (chd_ex hw h ha hq e).1
  have m2 := num_mono h (i := l + 2) (j := tZ T) (by omega) (by omega) (Int.le_refl _)
  have m3 := num_mono h (i := 0) (j := l + 1) (by decide) (by omega) (by omega)
  unfold chd at hx hy
  rw [el (l + 1) (by omega) (by omega), el (l + 2) (by omega) (by omega), ea] at hx
  rw [el (l + 1) (by omega) (by omega), el (l + 2) (by omega) (by omega), eb] at hy
  rw [ev x (by omega) (by omega)] at hx
  rw [ev y (by omega) (by omega)] at hy
  rw [eK hl1 x hx.1.1 hx.1.2, eK hl1 y hy.1.1 hy.1.2]
  exact g3 e x y hx hy
theorem kind_u {s2 : Int} {lf2 vl2 lv2 K2 : Int → Int} (hw : tWF T) (h : isNum T s lf vl lv) (h2 : isNum T s2 lf2 vl2 lv2) (hk : isKind T lf vl K) (hk2 : isKind T lf2 vl2 K2) : ∀ n : Int, 0 ≤ n → n < s → K n = K2 n := by
  obtain ⟨u1, u2, u3⟩ := num_u hw h h2
  have hz := hw.2.2.2.2.2.1
  -- levels from the last one up
  have key : ∀ l : Int, 0 ≤ l → l < tZ T → ∀ n : Int, lf l ≤ n → n < lf (l + 1) → K n = K2 n := by
    have step : ∀ k : Nat, (k : Int) ≤ tZ T → ∀ l : Int, tZ T - k ≤ l → 0 ≤ l → l < tZ T → ∀ n : Int, lf l ≤ n → n < lf (l + 1) → K n = K2 n := by
      intro k
      induction k with
      | zero => intro _ l hl l0 l1; omega
      | succ k ih =>
        intro hk' l hl l0 l1
        have el : ∀ j : Int, 0 ≤ j → j ≤ tZ T → lf2 j = lf j := fun j j0 j1 => (u2 j j0 j1).symm
        have el' : ∀ j : Int, 0 ≤ j → j ≤ tZ T → lf j = lf2 j := fun j j0 j1 => u2 j j0 j1
        have ev : ∀ j : Int, 0 ≤ j → j < s → vl2 j = vl j := fun j j0 j1 => (u3 j j0 j1).1.symm
        have ev' : ∀ j : Int, 0 ≤ j → j < s2 → vl j = vl2 j := fun j j0 j1 => (u3 j j0 (by omega)).1
        have eK : l + 1 < tZ T → ∀ n : Int, lf (l + 1) ≤ n → n < lf (l + 2) → K2 n = K n := fun hl1 n n0 n1 => (ih (by omega) (l + 1) (by omega) (by omega) hl1 n n0 (by rw [show l + 1 + 1 = l + 2 by omega]; exact n1)).symm
        have eK' : l + 1 < tZ T → ∀ n : Int, lf2 (l + 1) ≤ n → n < lf2 (l + 2) → K n = K2 n := fun hl1 n n0 n1 => (eK hl1 n (by rw [el' (l + 1) (by omega) (by omega)]; exact n0) (by rw [el' (l + 2) (by omega) (by omega)]; exact n1)).symm
        have ell := el l l0 (by omega)
        have ell1 := el (l + 1) (by omega) (by omega)
        have inner : ∀ j : Nat, ∀ n : Int, lf l ≤ n → n < lf (l + 1) → n < lf l + j → K n = K2 n := by
          intro j
          induction j with
          | zero => intro n n0 n1 n2; omega
          | succ j ihj =>
            intro n n0 n1 n2
            have k1 := hk l n l0 l1 n0 n1
            have k2 := hk2 l n l0 l1 (by omega) (by omega)
            rcases (show K n = K2 n ∨ K n < K2 n ∨ K2 n < K n by omega) with e | e | e
            · exact e
            · refine absurd ?_ (k2.2.2.2 (K n) (by rw [ell]; exact k1.1.1) e ?_)
              · exact like_cg h l0 l1 k1.1.1 (by have := k1.1; omega) n0 n1 el ev eK k1.2.2.1 hw
              · rw [← ihj (K n) k1.1.1 (by have := k1.1; omega) (by have := k2.1; omega)]
                exact k1.2.1
            · refine absurd ?_ (k1.2.2.2 (K2 n) (by rw [← ell]; exact k2.1.1) e ?_)
              · exact like_cg h2 l0 l1 k2.1.1 (by have := k2.1; omega) (by omega) (by omega) el' ev' eK' k2.2.2.1 hw
              · rw [ihj (K2 n) (by rw [← ell]; exact k2.1.1) (by have := k2.1; omega) (by have := k1.1; omega)]
                exact k2.2.1
        intro n n0 n1
        exact inner (n - lf l + 1).toNat n n0 n1 (by omega)
    intro l l0 l1
    exact step (tZ T).toNat (by omega) l (by omega) l0 l1
  intro n n0 n1
  obtain ⟨l, hl⟩ := num_at hw h n0 n1
  exact key l hl.1.1 hl.1.2 n hl.2.1.1 hl.2.1.2
end Kinds

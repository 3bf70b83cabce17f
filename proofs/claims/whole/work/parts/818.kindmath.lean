/-! KINDS IN THE CLASS: rows of kinds. -/
def hA (f : Int → Int) (x : Int) : Nat → Int
  | 0 => x
  | i + 1 => z64 (z64 (31 * hA f x i) + f i)
theorem hA_cg {f g : Int → Int} {x : Int} : ∀ n : Nat, (∀ i : Int, 0 ≤ i → i < n → f i = g i) → hA f x n = hA g x n
  | 0, _ => rfl
  | n + 1, h => by
    have ih := hA_cg (f := f) (g := g) (x := x) n (fun i i0 i1 => h i i0 (by omega))
    show z64 (z64 (31 * hA f x n) + f n) = z64 (z64 (31 * hA g x n) + g n)
    rw [ih, h n (by omega) (by omega)]
theorem hA_s {f : Int → Int} {x i : Int} (i0 : 0 ≤ i) : hA f x (i + 1).toNat = z64 (z64 (31 * hA f x i.toNat) + f i) := by
  rw [show (i + 1).toNat = i.toNat + 1 by omega]
  show z64 (z64 (31 * hA f x i.toNat) + f (i.toNat : Int)) = _
  rw [show (i.toNat : Int) = i by omega]
def hV (a : Int) : Int := iand (z32 (lxor a (lshr a 32))) 63
theorem hV_b (a : Int) : 0 ≤ hV a ∧ hV a < 64 := by
  have e : hV a = z32 (lxor a (lshr a 32)) % 2 ^ 6 := iand_mask _ (k := 6) (by decide)
  rw [e]
  have e2 : (2 : Int) ^ 6 = 64 := by decide
  rw [e2]
  omega
/-- the row of a node -/
noncomputable def hR (M : xM) (p : Int) (K : Int → Int) (T : TB) (l n : Int) : Int := hV (hA (fun i => K (M (p + 6) n + i)) (hA (fun i => M (p + 9) (M (p + 8) n + i)) (z64 (M (p + 3) n + z64 (31 * M (p + 4) n))) (nN T (M (p + 1) n) (wd (tB (tS T) (l + 1).toNat)) (2 ^ (tS T l).toNat)).toNat) (nK T (M (p + 1) n) (wd (tB (tS T) (l + 1).toNat)) (2 ^ (tS T l).toNat)).toNat)
section KindMath
variable {T : TB} {M : xM} {p : Int} {K : Int → Int}
theorem NA_nAt (hw : tWF T) (hN : NT M p T) {n l : Int} (ha : NA M p T n l) : nAt T (M (p + 12)) (M (p + 1)) (M (p + 2)) n l := num_nd hw (NT_num hN) ha.1.1 ha.1.2 ha.2.1.1 ha.2.1.2
theorem P64 (hw : tWF T) {l : Int} (l0 : 0 ≤ l) (l1 : l < tZ T) : (2 : Nat) ^ (tS T l).toNat ≤ 64 := by
  have hs := hw.2.2.2.2.2.2.1 l l0 l1
  have hpp := p26 hs.1 hs.2
  rw [p2i] at hpp
  omega
/-- children stand behind each other -/
theorem NA_chd (hw : tWF T) (hN : NT M p T) {n l : Int} (ha : NA M p T n l) {q : Nat} (hq : q < 2 ^ (tS T l).toNat) (hl : lfb T (M (p + 1) n + q * wd (tB (tS T) (l + 1).toNat)) (wd (tB (tS T) (l + 1).toNat)) = false) : chd T (M (p + 12)) (M (p + 1)) l n q (M (p + 6) n + nK T (M (p + 1) n) (wd (tB (tS T) (l + 1).toNat)) q) ∧ l + 1 < tZ T := by
  have hn := NA_nAt hw hN ha
  have hl1 := (chd_ex hw (NT_num hN) hn hq hl).1
  obtain ⟨⟨f3, f4, f6, f8, f8', f9, f1⟩, g1, g2, g3, g4⟩ := ha.2.2.2.2.2
  rw [if_pos hl1] at g2
  have kb := nK_b T (M (p + 1) n) (wd (tB (tS T) (l + 1).toNat)) q
  have km := nK_mono (T := T) (v := M (p + 1) n) (z := wd (tB (tS T) (l + 1).toNat)) (show q + 1 ≤ 2 ^ (tS T l).toNat by omega)
  rw [nK_n hl] at km
  exact ⟨⟨by omega, (f1 q hq hl).1⟩, hl1⟩
theorem like_iff (hw : tWF T) (hN : NT M p T) {m n l : Int} (hm : NA M p T m l) (hn : NA M p T n l) : isLike T (M (p + 12)) (M (p + 1)) K l m n ↔ (sameN T T l (M (p + 1) m) (M (p + 1) n) ∧ ∀ i : Int, 0 ≤ i → i < nK T (M (p + 1) n) (wd (tB (tS T) (l + 1).toNat)) (2 ^ (tS T l).toNat) → K (M (p + 6) m + i) = K (M (p + 6) n + i)) := by
  have h64 := P64 hw hn.1.1 hn.1.2
  have hnum := NT_num hN
  constructor
  · intro h
    obtain ⟨s1, s2, s3⟩ := same_of (T := T) (v := M (p + 1) m) (w := M (p + 1) n) (fun q hq => ⟨(h q hq).1, (h q hq).2.1⟩)
    refine ⟨s1, fun i i0 i1 => ?_⟩
    obtain ⟨q, q0, q1, q2⟩ := nK_surj _ i i0 i1
    have q1' : lfb T (M (p + 1) m + q * wd (tB (tS T) (l + 1).toNat)) (wd (tB (tS T) (l + 1).toNat)) = false := by rw [(h q q0).1]; exact q1
    have c1 := (NA_chd hw hN hm q0 q1').1
    have c2 := (NA_chd hw hN hn q0 q1).1
    rw [(s3 q (by omega)).2.1, q2] at c1
    rw [q2] at c2
    exact (h q q0).2.2 q1' _ _ c1 c2
  · intro h q hq
    have h1 := same_to hw h64 h.1
    obtain ⟨s1, s2, s3⟩ := same_of h1
    refine ⟨(h1 q hq).1, (h1 q hq).2, fun e c c2 hc hc2 => ?_⟩
    have e' : lfb T (M (p + 1) n + q * wd (tB (tS T) (l + 1).toNat)) (wd (tB (tS T) (l + 1).toNat)) = false := by rw [← (h1 q hq).1]; exact e
    obtain ⟨d1, d2⟩ := NA_chd hw hN hm hq e
    have d3 := (NA_chd hw hN hn hq e').1
    rw [chd_u hnum hm.1.1 d2 hc d1, chd_u hnum hm.1.1 d2 hc2 d3, (s3 q (by omega)).2.1]
    have km := nK_mono (T := T) (v := M (p + 1) n) (z := wd (tB (tS T) (l + 1).toNat)) (show q + 1 ≤ 2 ^ (tS T l).toNat by omega)
    rw [nK_n e'] at km
    exact h.2 _ (nK_b T _ _ q).1 (by omega)
theorem like_row (hw : tWF T) (hN : NT M p T) {m n l : Int} (hm : NA M p T m l) (hn : NA M p T n l) (h : isLike T (M (p + 12)) (M (p + 1)) K l m n) : hR M p K T l m = hR M p K T l n := by
  have h64 := P64 hw hn.1.1 hn.1.2
  obtain ⟨h1, h2⟩ := (like_iff hw hN hm hn).mp h
  have h3 := same_to hw h64 h1
  obtain ⟨s1, s2, s3⟩ := same_of h3
  obtain ⟨⟨f3, f4, f6, f8, f8', f9, f1⟩, -⟩ := hm.2.2.2.2.2
  obtain ⟨⟨k3, k4, k6, k8, k8', k9, k1⟩, -⟩ := hn.2.2.2.2.2
  have n3 := h1.2.2.1
  unfold hR
  rw [f3, k3, f4, k4, h1.1, h1.2.1, n3, s2]
  have nb := nN_b T (M (p + 1) n) (wd (tB (tS T) (l + 1).toNat)) (2 ^ (tS T l).toNat)
  have kb := nK_b T (M (p + 1) n) (wd (tB (tS T) (l + 1).toNat)) (2 ^ (tS T l).toNat)
  rw [hA_cg (f := fun i => M (p + 9) (M (p + 8) m + i)) (g := fun i => M (p + 9) (M (p + 8) n + i)) _ (fun i i0 i1 => ?_), hA_cg (f := fun i => K (M (p + 6) m + i)) (g := fun i => K (M (p + 6) n + i)) _ (fun i i0 i1 => h2 i i0 (by omega))]
  obtain ⟨q, q0, q1, q2⟩ := nN_surj (T := T) (v := M (p + 1) n) (z := wd (tB (tS T) (l + 1).toNat)) (2 ^ (tS T l).toNat) i i0 (by omega)
  have q1' : nS T (M (p + 1) m) (wd (tB (tS T) (l + 1).toNat)) q = true := by rw [(s3 q (by omega)).2.2 q0]; exact q1
  have q2' : nN T (M (p + 1) m) (wd (tB (tS T) (l + 1).toNat)) q = i := by rw [(s3 q (by omega)).1]; exact q2
  have e1 := (f9 q q0 q1').1
  have e2 := (k9 q q0 q1).1
  rw [q2'] at e1
  rw [q2] at e2
  show M (p + 9) (M (p + 8) m + i) = M (p + 9) (M (p + 8) n + i)
  rw [e1, e2]
  have el : lfb T (M (p + 1) m + q * wd (tB (tS T) (l + 1).toNat)) (wd (tB (tS T) (l + 1).toNat)) = true := by
    cases e3 : lfb T (M (p + 1) m + q * wd (tB (tS T) (l + 1).toNat)) (wd (tB (tS T) (l + 1).toNat)) with
    | true => rfl
    | false => rw [nS_f e3] at q1'; exact absurd q1' (by decide)
  exact (hp_cod hw _ _).mpr ((h3 q q0).2 el)
/-- the last of a row ahead of a node -/
def isPrev (M : xM) (p : Int) (K : Int → Int) (T : TB) (l a ρ x : Int) : Prop := (x = -1 ∧ ∀ o : Int, M (p + 12) l ≤ o → o < a → K o = o → ¬ hR M p K T l o = ρ) ∨ ((M (p + 12) l ≤ x ∧ x < a) ∧ K x = x ∧ hR M p K T l x = ρ ∧ ∀ o : Int, x < o → o < a → K o = o → ¬ hR M p K T l o = ρ)
/-- kinds are known up to node n of level l -/
def KI (M : xM) (p : Int) (K RS NX : Int → Int) (T : TB) (l n : Int) : Prop := (∀ k o : Int, l < k → k < tZ T → M (p + 12) k ≤ o → o < M (p + 12) (k + 1) → isKn T (M (p + 12)) (M (p + 1)) K k o) ∧ (∀ o : Int, M (p + 12) l ≤ o → o < n → isKn T (M (p + 12)) (M (p + 1)) K l o) ∧ (∀ ρ : Int, 0 ≤ ρ → ρ < 64 → isPrev M p K T l n ρ (RS ρ)) ∧ ∀ o : Int, M (p + 12) l ≤ o → o < n → K o = o → isPrev M p K T l o (hR M p K T l o) (NX o)
theorem hR_cg (hw : tWF T) (hN : NT M p T) {K2 : Int → Int} {n l : Int} (hn : NA M p T n l) (e : l + 1 < tZ T → ∀ c : Int, M (p + 12) (l + 1) ≤ c → c < M (p + 12) (l + 2) → K2 c = K c) : hR M p K2 T l n = hR M p K T l n := by
  unfold hR
  rw [hA_cg (f := fun i => K2 (M (p + 6) n + i)) (g := fun i => K (M (p + 6) n + i)) _ (fun i i0 i1 => ?_)]
  have kb := nK_b T (M (p + 1) n) (wd (tB (tS T) (l + 1).toNat)) (2 ^ (tS T l).toNat)
  obtain ⟨q, q0, q1, q2⟩ := nK_surj (T := T) (v := M (p + 1) n) (z := wd (tB (tS T) (l + 1).toNat)) (2 ^ (tS T l).toNat) i i0 (by omega)
  obtain ⟨c1, c2⟩ := NA_chd hw hN hn q0 q1
  rw [q2] at c1
  exact e c2 _ c1.1.1 c1.1.2
/-- a kind more -/
theorem KI_s (hw : tWF T) (hN : NT M p T) {RS NX RS2 NX2 : Int → Int} {l n x : Int} (l0 : 0 ≤ l) (l1 : l < tZ T) (n0 : M (p + 12) l ≤ n) (n1 : n < M (p + 12) (l + 1)) (h : KI M p K RS NX T l n) (hx : (x = n ∧ (∀ o : Int, M (p + 12) l ≤ o → o < n → K o = o → ¬ isLike T (M (p + 12)) (M (p + 1)) K l o n) ∧ RS2 = uf RS (hR M p K T l n) n ∧ NX2 = uf NX n (RS (hR M p K T l n))) ∨ ((M (p + 12) l ≤ x ∧ x < n) ∧ K x = x ∧ isLike T (M (p + 12)) (M (p + 1)) K l x n ∧ RS2 = RS ∧ NX2 = NX)) : KI M p (uf K n x) RS2 NX2 T l (n + 1) := by
  have hnum := NT_num hN
  have ml := NT_le hN (i := l + 1) (j := tZ T) (by omega) (by omega) (Int.le_refl _)
  have hna : ∀ o : Int, M (p + 12) l ≤ o → o < n + 1 → NA M p T o l := fun o o0 o1 => NT_nd hw hN l0 l1 o0 (by omega)
  have eK : ∀ o : Int, ¬ o = n → uf K n x o = K o := fun o ho => uf_ne ho
  have eKn : uf K n x n = x := uf_at rfl
  have ech : l + 1 < tZ T → ∀ c : Int, M (p + 12) (l + 1) ≤ c → c < M (p + 12) (l + 2) → uf K n x c = K c := fun _ c c0 _ => eK c (by omega)
  have eR : ∀ o : Int, M (p + 12) l ≤ o → o < n + 1 → hR M p (uf K n x) T l o = hR M p K T l o := fun o o0 o1 => hR_cg hw hN (hna o o0 o1) ech
  have lk : ∀ a b : Int, M (p + 12) l ≤ a → a < n + 1 → M (p + 12) l ≤ b → b < n + 1 → (isLike T (M (p + 12)) (M (p + 1)) (uf K n x) l a b ↔ isLike T (M (p + 12)) (M (p + 1)) K l a b) := fun a b a0 a1 b0 b1 => by
    constructor
    · intro z
      exact like_cg hnum l0 l1 a0 (by omega) b0 (by omega) (fun _ _ _ => rfl) (fun _ _ _ => rfl) (fun y c c0 c1 => (ech y c c0 c1).symm) z hw
    · intro z
      exact like_cg hnum l0 l1 a0 (by omega) b0 (by omega) (fun _ _ _ => rfl) (fun _ _ _ => rfl) ech z hw
  have xb : M (p + 12) l ≤ x ∧ x ≤ n := by
    rcases hx with ⟨e, -⟩ | ⟨e, -⟩
    · omega
    · omega
  have prv : ∀ a ρ y : Int, a ≤ n → isPrev M p K T l a ρ y → isPrev M p (uf K n x) T l a ρ y := fun a ρ y a1 hp => by
    rcases hp with ⟨e, g⟩ | ⟨e, g1, g2, g3⟩
    · exact Or.inl ⟨e, fun o o0 o1 ho => by rw [eR o o0 (by omega)]; rw [eK o (by omega)] at ho; exact g o o0 o1 ho⟩
    · exact Or.inr ⟨e, by rw [eK y (by omega)]; exact g1, by rw [eR y e.1 (by omega)]; exact g2, fun o o0 o1 ho => by rw [eR o (by omega) (by omega)]; rw [eK o (by omega)] at ho; exact g3 o o0 o1 ho⟩
  refine ⟨fun k o k0 k1 o0 o1 => ?_, fun o o0 o1 => ?_, fun ρ r0 r1 => ?_, fun o o0 o1 ho => ?_⟩
  · -- deeper levels
    have mk := NT_le hN (i := l + 1) (j := k) (by omega) (by omega) (by omega)
    obtain ⟨g1, g2, g3, g4⟩ := h.1 k o k0 k1 o0 o1
    have ech2 : k + 1 < tZ T → ∀ c : Int, M (p + 12) (k + 1) ≤ c → c < M (p + 12) (k + 2) → uf K n x c = K c := fun z c c0 _ => eK c (by have := NT_le hN (i := k) (j := k + 1) (by omega) (by omega) (by omega); omega)
    refine ⟨by rw [eK o (by omega)]; exact g1, by rw [eK o (by omega), eK (K o) (by omega)]; exact g2, ?_, fun j j0 j1 hj => ?_⟩
    · rw [eK o (by omega)]
      exact like_cg hnum (by omega) k1 g1.1 (by omega) o0 o1 (fun _ _ _ => rfl) (fun _ _ _ => rfl) ech2 g3 hw
    · rw [eK o (by omega)] at j1
      rw [eK j (by omega)] at hj
      intro z
      exact g4 j j0 j1 hj (like_cg hnum (by omega) k1 j0 (by omega) o0 o1 (fun _ _ _ => rfl) (fun _ _ _ => rfl) (fun y c c0 c1 => (ech2 y c c0 c1).symm) z hw)
  · by_cases e : o = n
    · subst e
      rcases hx with ⟨e1, g, -⟩ | ⟨e1, e2, e3, -⟩
      · refine ⟨by rw [eKn]; exact xb, by rw [eKn, uf_at e1], ?_, fun j j0 j1 hj => ?_⟩
        · have hr9 := (lk o o o0 (by omega) o0 (by omega)).mpr (like_refl hw hnum (NA_nAt hw hN (hna o o0 (by omega))))
          have e9 : uf K o x o = o := uf_at rfl |>.trans e1
          rw [e9]
          exact hr9
        · rw [eKn] at j1
          rw [eK j (by omega)] at hj
          rw [lk j o j0 (by omega) o0 (by omega)]
          exact g j j0 (by omega) hj
      · refine ⟨by rw [eKn]; exact xb, by rw [eKn, eK x (by omega)]; exact e2, ?_, fun j j0 j1 hj => ?_⟩
        · rw [eKn]
          exact (lk x o e1.1 (by omega) o0 (by omega)).mpr e3
        · rw [eKn] at j1
          rw [eK j (by omega)] at hj
          rw [lk j o j0 (by omega) o0 (by omega)]
          intro z
          have hxk := h.2.1 x e1.1 e1.2
          refine hxk.2.2.2 j j0 (by rw [e2]; exact j1) hj ?_
          exact like_trans hw hnum (NA_nAt hw hN (hna o o0 (by omega))) z (like_symm e3)
    · obtain ⟨g1, g2, g3, g4⟩ := h.2.1 o o0 (by omega)
      refine ⟨by rw [eK o e]; exact g1, by rw [eK o e, eK (K o) (by omega)]; exact g2, ?_, fun j j0 j1 hj => ?_⟩
      · rw [eK o e]
        exact (lk (K o) o g1.1 (by omega) o0 (by omega)).mpr g3
      · rw [eK o e] at j1
        rw [eK j (by omega)] at hj
        rw [lk j o j0 (by omega) o0 (by omega)]
        exact g4 j j0 j1 hj
  · have h3 := h.2.2.1 ρ r0 r1
    have h3' := prv n ρ (RS ρ) (Int.le_refl _) h3
    rcases hx with ⟨e1, g, e2, e3⟩ | ⟨e1, e2, e3, e4, e5⟩
    · rw [e2]
      by_cases er : ρ = hR M p K T l n
      · rw [uf_at er]
        exact Or.inr ⟨⟨n0, by omega⟩, by rw [eKn, e1], by rw [eR n n0 (by omega)]; exact er.symm, fun o o0 o1 => by omega⟩
      · rw [uf_ne er]
        have hne : ¬ hR M p (uf K n x) T l n = ρ := by rw [eR n n0 (by omega)]; exact fun z => er z.symm
        rcases h3' with ⟨a1, a2⟩ | ⟨a1, a2, a3, a4⟩
        · refine Or.inl ⟨a1, fun o o0 o1 ho => ?_⟩
          by_cases eo : o = n
          · rw [eo]; exact hne
          · exact a2 o o0 (by omega) ho
        · refine Or.inr ⟨⟨a1.1, by omega⟩, a2, a3, fun o o0 o1 ho => ?_⟩
          by_cases eo : o = n
          · rw [eo]; exact hne
          · exact a4 o o0 (by omega) ho
    · rw [e4]
      have hno : ¬ uf K n x n = n := by rw [eKn]; omega
      rcases h3' with ⟨a1, a2⟩ | ⟨a1, a2, a3, a4⟩
      · refine Or.inl ⟨a1, fun o o0 o1 ho => ?_⟩
        by_cases eo : o = n
        · rw [eo] at ho; exact absurd ho hno
        · exact a2 o o0 (by omega) ho
      · refine Or.inr ⟨⟨a1.1, by omega⟩, a2, a3, fun o o0 o1 ho => ?_⟩
        by_cases eo : o = n
        · rw [eo] at ho; exact absurd ho hno
        · exact a4 o o0 (by omega) ho
  · rw [eR o o0 o1]
    by_cases eo : o = n
    · subst eo
      rcases hx with ⟨e1, g, e2, e3⟩ | ⟨e1, e2, e3, e4, e5⟩
      · rw [e3, uf_at rfl]
        exact prv o _ _ (Int.le_refl _) (h.2.2.1 _ (hV_b _).1 (hV_b _).2)
      · rw [eKn] at ho
        omega
    · rw [eK o eo] at ho
      have h4 := prv o _ _ (by omega) (h.2.2.2 o o0 (by omega) ho)
      rcases hx with ⟨e1, g, e2, e3⟩ | ⟨e1, e2, e3, e4, e5⟩
      · rw [e3, uf_ne eo]; exact h4
      · rw [e5]; exact h4
end KindMath

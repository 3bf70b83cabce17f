/-! PLACES in the reference: where rules begin and end. -/
theorem qMo_firstOf {d na : Nat} {M : xM} {Q : xQ} {T : TB} {c o k : Int} (hw : tWF T) (hc : RT M c o T) (o0 : 0 ≤ o) (o1 : o + 259 ≤ na) (o2 : (na : Int) ≤ 10000) (k0 : 0 ≤ k) (k1 : k < tN T) (h : Q (xL (tV T k)) M) : Ru (d + 1) kMo_firstOf 0 [xAI na c, xI o, xI k] [] M Q := by
  have hn := hw.1
  have hv := (hw.2.1 k k0 k1).1
  refine vMo_firstOf_0 ?_
  simp (disch := omega) only [z32_id]
  rw [(hc.2.2.1 k k0 k1).1]
  refine ⟨by omega, qMo_unsigned (vMo_firstOf_10 ?_)⟩
  rw [uns_z, uns_id hv.1 hv.2]
  exact h
theorem qMo_behindOf {d na : Nat} {M : xM} {Q : xQ} {T : TB} {c o k : Int} (hw : tWF T) (hc : RT M c o T) (o0 : 0 ≤ o) (o1 : o + 259 ≤ na) (o2 : (na : Int) ≤ 10000) (k0 : 0 ≤ k) (k1 : k < tN T) (h : Q (xL (tV T k + wd (tL T k))) M) : Ru (d + 2) kMo_behindOf 0 [xAI na c, xI o, xI k] [] M Q := by
  have hn := hw.1
  obtain ⟨hv, hl, -⟩ := hw.2.1 k k0 k1
  have h1 := wd_pos (tL T k)
  have h2 := wd_le hl.1
  refine vMo_behindOf_0 (qMo_firstOf hw hc o0 o1 o2 k0 k1 (vMo_behindOf_6 ?_))
  simp (disch := omega) only [z32_id]
  rw [(hc.2.2.1 k k0 k1).2.1]
  refine ⟨by omega, qMo_sizeOf hl.1 hl.2 (vMo_behindOf_17 ?_)⟩
  rw [z64_id (by omega) (by omega)]
  exact h
theorem rlB_s {T : TB} {a b : Int} {i : Int} (i0 : 0 ≤ i) : rlB T a b (i + 1).toNat = if inR T i a ∧ ¬ i = b then i else rlB T a b i.toNat := by
  rw [show (i + 1).toNat = i.toNat + 1 by omega]
  show (if inR T (i.toNat : Int) a ∧ ¬ ((i.toNat : Nat) : Int) = b then ((i.toNat : Nat) : Int) else _) = _
  rw [Int.toNat_of_nonneg i0]
theorem qMo_ruleOf {d na : Nat} {M : xM} {Q : xQ} {T : TB} {c o a b : Int} (hw : tWF T) (hc : RT M c o T) (o0 : 0 ≤ o) (o1 : o + 259 ≤ na) (o2 : (na : Int) ≤ 10000) (h : Q (xI (rlB T a b (tN T).toNat)) M) : Ru (d + 3) kMo_ruleOf 0 [xAI na c, xI o, xL a, xU, xI b, xU, xU] [] M Q := by
  have hn := hw.1
  refine vMo_ruleOf_0 (loop_up (tN T) (P := fun i => 0 ≤ i → Ru (d + 3) kMo_ruleOf 6 [xAI na c, xI o, xL a, xU, xI b, xI (rlB T a b i.toNat), xI i] [] M Q) (fun i hi ih i0 => ?_) 0 hn.1 (Int.le_refl _))
  refine vMo_ruleOf_6 ?_
  rw [z32_id (x := o + 0) (by omega) (by omega), show o + 0 = o by omega, hc.1, z32_id (x := i + 1) (by omega) (by omega)]
  refine ⟨by omega, fun q => ?_, fun q => ?_⟩
  · have e : i = tN T := by omega
    subst e
    exact h
  · have nx := ih (i + 1) (by omega) (by omega) (by omega)
    rw [rlB_s i0] at nx
    refine ⟨fun q2 => ?_, fun q2 => ?_⟩
    · rw [if_neg (fun z => z.2 q2)] at nx
      exact nx
    · obtain ⟨hv, hl, -⟩ := hw.2.1 i i0 (by omega)
      have h1 := wd_pos (tL T i)
      have h2 := wd_le hl.1
      refine qMo_firstOf hw hc o0 o1 o2 i0 (by omega) (vMo_ruleOf_31 (qMo_behindOf hw hc o0 o1 o2 i0 (by omega) (vMo_ruleOf_38 ?_)))
      rw [z64_id (by omega) (by omega)]
      refine qMo_isIn (fun g0 g1 => vMo_ruleOf_43 ⟨fun _ => ?_, fun z => absurd (by decide) z⟩) (fun g => vMo_ruleOf_43 ⟨fun z => absurd rfl z, fun _ => ?_⟩)
      · have hin : inR T i a := ⟨g0, by omega⟩
        rw [if_pos ⟨hin, q2⟩] at nx
        rw [z32_id (x := i + 1) (by omega) (by omega)]
        refine ⟨fun _ => nx, fun q3 => ?_⟩
        have hb := rlB_in T a b i.toNat
        have hb2 := hb.2.2 (by omega)
        have hN := nest hw (i := rlB T a b i.toNat) (j := i) (a := a) (by omega) (by omega) (by omega) hb2.1 hin
        simp (disch := omega) only [z32_id]
        rw [(hc.2.2.1 i i0 (by omega)).2.1, (hc.2.2.1 (rlB T a b i.toNat) (by omega) (by omega)).2.1]
        exact ⟨by omega, by omega, fun q4 => by omega, fun q4 => nx⟩
      · rw [if_neg (fun z => g ⟨z.1.1, by have := z.1.2; omega⟩)] at nx
        rw [z32_id (x := i + 1) (by omega) (by omega)]
        exact nx
/-- places: rising, just those of a set -/
def isPlc (M : xM) (r m : Int) (S : Int → Prop) : Prop := M r 12 = m ∧ 0 ≤ m ∧ (∀ i j : Int, 0 ≤ i → i < j → j < m → M (r + 11) i < M (r + 11) j) ∧ (∀ i : Int, 0 ≤ i → i < m → S (M (r + 11) i)) ∧ ∀ x : Int, S x → ∃ i : Int, 0 ≤ i ∧ i < m ∧ M (r + 11) i = x
theorem isPlc_S {M : xM} {r m : Int} {S S2 : Int → Prop} (h : isPlc M r m S) (e : ∀ x, S x ↔ S2 x) : isPlc M r m S2 := ⟨h.1, h.2.1, h.2.2.1, fun i i0 i1 => (e _).mp (h.2.2.2.1 i i0 i1), fun x hx => h.2.2.2.2 x ((e x).mpr hx)⟩
theorem qMo_addsPlace {d : Nat} {M : xM} {Q : xQ} {r x m : Int} {S : Int → Prop} (hp : isPlc M r m S) (hm : m < 124) (h : ∀ (N : xM) (k : Int), isPlc N r k (fun y => S y ∨ (y = x ∧ x < 4294967296)) → m ≤ k → k ≤ m + 1 → (∀ b j : Int, ¬ b = r + 11 → ¬ (b = r ∧ j = 12) → N b j = M b j) → Q xU N) : Ru d kMo_addsPlace 0 [xO 9 r, xL x, xU, xU, xU] [] M Q := by
  obtain ⟨p1, p2, p3, p4, p5⟩ := id hp
  refine vMo_addsPlace_0 ⟨fun hx => ?_, fun hx => h M m (isPlc_S hp (fun y => ⟨Or.inl, fun z => z.elim id (fun z => absurd z.2 hx)⟩)) (Int.le_refl _) (by omega) (fun _ _ _ _ => rfl)⟩
  rw [p1]
  -- the place
  have key : ∀ k : Int, 0 ≤ k → k ≤ m → (∀ j : Int, 0 ≤ j → j < k → M (r + 11) j ≤ x) → (∀ j : Int, k ≤ j → j < m → x < M (r + 11) j) → Ru d kMo_addsPlace 37 [xO 9 r, xL x, xU, xI k, xU] [] M Q := by
    intro k k0 k1 ha hb
    have ins : ¬ S x → (∀ j : Int, 0 ≤ j → j < k → M (r + 11) j < x) → Ru d kMo_addsPlace 61 [xO 9 r, xL x, xU, xI k, xI m] [] M Q := by
      intro hS ha2
      refine loop_dn k (P := fun i => ∀ N : xM, i ≤ m → (∀ j : Int, j < i → N (r + 11) j = M (r + 11) j) → (∀ j : Int, i < j → j ≤ m → N (r + 11) j = M (r + 11) (j - 1)) → (∀ b j : Int, ¬ b = r + 11 → N b j = M b j) → Ru d kMo_addsPlace 61 [xO 9 r, xL x, xU, xI k, xI i] [] N Q) (fun i i0 ih N i1 e1 e2 hf => ?_) m k1 M (Int.le_refl _) (fun _ _ => rfl) (fun j j0 j1 => by omega) (fun _ _ _ => rfl)
      refine vMo_addsPlace_61 ⟨fun q => ⟨by omega, ?_⟩, fun q => ?_⟩
      · have e : i = k := by omega
        subst e
        rw [up_ne (by omega), hf _ _ (by omega), p1, z32_id (by omega) (by omega)]
        have hz : ∀ j : Int, up (up N (r + 11) i x) r 12 (m + 1) (r + 11) j = up N (r + 11) i x (r + 11) j := fun j => up_ne (by omega)
        refine h _ (m + 1) ⟨up_same, by omega, fun a b a0 ab b1 => ?_, fun a a0 a1 => ?_, fun y hy => ?_⟩ (by omega) (Int.le_refl _) (fun b j hb1 hb2 => ?_)
        · rw [hz, hz]
          rcases (show a < i ∨ a = i ∨ i < a by omega) with u | u | u <;> rcases (show b < i ∨ b = i ∨ i < b by omega) with w | w | w <;> try omega
          · rw [up_off (by omega), up_off (by omega), e1 a u, e1 b w]; exact p3 a b a0 ab (by omega)
          · rw [up_off (by omega), w, up_same, e1 a u]; exact ha2 a a0 u
          · rw [up_off (by omega), up_off (by omega), e1 a u, e2 b w (by omega)]
            have := hb (b - 1) (by omega) (by omega)
            have := ha2 a a0 u
            omega
          · rw [u, up_same, up_off (by omega), e2 b w (by omega)]; exact hb (b - 1) (by omega) (by omega)
          · rw [up_off (by omega), up_off (by omega), e2 a u (by omega), e2 b w (by omega)]; exact p3 (a - 1) (b - 1) (by omega) (by omega) (by omega)
        · rw [hz]
          rcases (show a < i ∨ a = i ∨ i < a by omega) with u | u | u
          · rw [up_off (by omega), e1 a u]; exact Or.inl (p4 a a0 (by omega))
          · rw [u, up_same]; exact Or.inr ⟨rfl, hx⟩
          · rw [up_off (by omega), e2 a u (by omega)]; exact Or.inl (p4 (a - 1) (by omega) (by omega))
        · rcases hy with hy | ⟨rfl, -⟩
          · obtain ⟨a, a0, a1, a2⟩ := p5 y hy
            rcases (show a < i ∨ i ≤ a by omega) with u | u
            · exact ⟨a, a0, by omega, by rw [hz, up_off (by omega), e1 a u]; exact a2⟩
            · exact ⟨a + 1, by omega, by omega, by rw [hz, up_off (by omega), e2 (a + 1) (by omega) (by omega), show a + 1 - 1 = a by omega]; exact a2⟩
          · exact ⟨i, k0, by omega, by rw [hz, up_same]⟩
        · rw [up_un (by omega), up_ne hb1, hf b j hb1]
      · rw [z32_id (x := i - 1) (by omega) (by omega), z32_id (x := i + -1) (by omega) (by omega)]
        refine ⟨by omega, by omega, ih (i + -1) (by omega) (by omega) _ (by omega) (fun j j1 => ?_) (fun j j0 j1 => ?_) (fun b j hb1 => ?_)⟩
        · rw [up_off (by omega), e1 j (by omega)]
        · rcases (show j = i ∨ i < j by omega) with u | u
          · rw [u, up_same, e1 (i - 1) (by omega)]
          · rw [up_off (by omega), e2 j u j1]
        · rw [up_ne hb1, hf b j hb1]
    refine vMo_addsPlace_37 ?_
    rw [p1]
    refine ⟨fun q => ins (fun hS => ?_) (fun j j0 j1 => by omega), fun q => ?_⟩
    · obtain ⟨a, a0, a1, a2⟩ := p5 x hS
      have := hb a (by omega) a1
      omega
    · rw [z32_id (by omega) (by omega)]
      refine ⟨by omega, fun q2 => ins (fun hS => ?_) (fun j j0 j1 => ?_), fun q2 => ?_⟩
      · obtain ⟨a, a0, a1, a2⟩ := p5 x hS
        rcases (show k ≤ a ∨ a = k - 1 ∨ a < k - 1 by omega) with u | u | u
        · have := hb a u a1; omega
        · rw [u] at a2; exact q2 a2
        · have h1 := p3 a (k - 1) a0 u (by omega)
          have h2 := ha (k - 1) (by omega) (by omega)
          omega
      · have h2 := ha (k - 1) (by omega) (by omega)
        rcases (show j = k - 1 ∨ j < k - 1 by omega) with u | u
        · rw [u]; omega
        · have := p3 j (k - 1) j0 u (by omega); omega
      · have q2 := Classical.not_not.mp q2
        refine h M m (isPlc_S hp (fun y => ⟨Or.inl, fun z => z.elim id (fun z => ?_)⟩)) (Int.le_refl _) (by omega) (fun _ _ _ _ => rfl)
        rw [z.1, ← q2]
        exact p4 (k - 1) (by omega) (by omega)
  refine loop_dn 0 (P := fun k => k ≤ m → (∀ j : Int, k ≤ j → j < m → x < M (r + 11) j) → Ru d kMo_addsPlace 14 [xO 9 r, xL x, xU, xI k, xU] [] M Q) (fun k k0 ih k1 hb => ?_) m p2 (Int.le_refl _) (fun j j0 j1 => by omega)
  refine vMo_addsPlace_14 ⟨fun q => key k k0 k1 (fun j j0 j1 => by omega) hb, fun q => ?_⟩
  rw [z32_id (x := k - 1) (by omega) (by omega), z32_id (x := k + -1) (by omega) (by omega)]
  refine ⟨by omega, fun q2 => key k k0 k1 (fun j j0 j1 => ?_) hb, fun q2 => ih (k + -1) (by omega) (by omega) (by omega) (fun j j0 j1 => ?_)⟩
  · rcases (show j = k - 1 ∨ j < k - 1 by omega) with u | u
    · rw [u]; exact q2
    · have := p3 j (k - 1) j0 u (by omega); omega
  · rcases (show j = k - 1 ∨ k ≤ j by omega) with u | u
    · rw [u]; omega
    · exact hb j u j1
/-- where rules begin or end -/
def plS (T : TB) (n : Int) (x : Int) : Prop := x = 0 ∨ ∃ k : Int, 0 ≤ k ∧ k < n ∧ (x = tV T k ∨ (x = tV T k + wd (tL T k) ∧ x < 4294967296))
theorem plS_s {T : TB} (hw : tWF T) {i x : Int} (i0 : 0 ≤ i) (i1 : i < tN T) : ((plS T i x ∨ (x = tV T i ∧ tV T i < 4294967296)) ∨ (x = tV T i + wd (tL T i) ∧ tV T i + wd (tL T i) < 4294967296)) ↔ plS T (i + 1) x := by
  have hv := (hw.2.1 i i0 i1).1
  unfold plS
  constructor
  · rintro (((h | ⟨k, k0, k1, h⟩) | h) | h)
    · exact Or.inl h
    · exact Or.inr ⟨k, k0, by omega, h⟩
    · exact Or.inr ⟨i, i0, by omega, Or.inl h.1⟩
    · exact Or.inr ⟨i, i0, by omega, Or.inr ⟨h.1, by omega⟩⟩
  · rintro (h | ⟨k, k0, k1, h⟩)
    · exact Or.inl (Or.inl (Or.inl h))
    · rcases (show k < i ∨ k = i by omega) with e | e
      · exact Or.inl (Or.inl (Or.inr ⟨k, k0, e, h⟩))
      · subst e
        rcases h with h | h
        · exact Or.inl (Or.inr ⟨h, hv.2⟩)
        · exact Or.inr ⟨h.1, by omega⟩
theorem qMo_laysPlaces {d na : Nat} {M : xM} {Q : xQ} {T : TB} {r c o : Int} (hw : tWF T) (hc : RT M c o T) (o0 : 0 ≤ o) (o1 : o + 259 ≤ na) (o2 : (na : Int) ≤ 10000) (c1 : ¬ c = r) (c2 : ¬ c = r + 11) (c3 : ¬ c = r + 12)
    (h : ∀ (N : xM) (m : Int), isPlc N r m (plS T (tN T)) → m ≤ 121 → (∀ i : Int, 0 ≤ i → i < m → N (r + 12) i = rl T (N (r + 11) i)) → (∀ b j : Int, ¬ b = r + 11 → ¬ b = r + 12 → ¬ (b = r ∧ j = 12) → N b j = M b j) → Q xU N) : Ru (d + 4) kMo_laysPlaces 0 [xO 9 r, xAI na c, xI o, xU] [] M Q := by
  have hn := hw.1
  have hct : ∀ {N : xM}, (∀ b j : Int, ¬ b = r + 11 → ¬ b = r + 12 → ¬ (b = r ∧ j = 12) → N b j = M b j) → RT N c o T := by
    intro N hf
    unfold RT at hc ⊢
    simp only [hf c _ c2 c3 (fun z => c1 z.1)]
    exact hc
  refine vMo_laysPlaces_0 (qMo_addsPlace (m := 0) (S := fun _ => False) ⟨up_same, Int.le_refl _, fun i j i0 ij j1 => by omega, fun i i0 i1 => by omega, fun x hx => hx.elim⟩ (by decide) (fun N k hN k0 k1 hf => vMo_laysPlaces_10 ?_))
  refine loop_up (tN T) (P := fun i => ∀ (N : xM) (m : Int), 0 ≤ i → isPlc N r m (plS T i) → m ≤ 1 + 2 * i → (∀ b j : Int, ¬ b = r + 11 → ¬ b = r + 12 → ¬ (b = r ∧ j = 12) → N b j = M b j) → Ru (d + 4) kMo_laysPlaces 12 [xO 9 r, xAI na c, xI o, xI i] [] N Q) (fun i hi ih N m i0 hN hm hf => ?_) 0 hn.1 N k (Int.le_refl _) (isPlc_S hN (fun y => ⟨fun z => z.elim (fun z => z.elim) (fun z => Or.inl z.1), fun z => by
    rcases z with z | ⟨k, k0, k1, -⟩
    · exact Or.inr ⟨z, by decide⟩
    · omega⟩)) (by omega) (fun b j h1 h2 h3 => by rw [hf b j h1 h3, up_un (by omega)])
  have hcN := hct hf
  refine vMo_laysPlaces_12 ?_
  rw [z32_id (x := o + 0) (by omega) (by omega), show o + 0 = o by omega, hcN.1]
  refine ⟨by omega, fun q => ?_, fun q => ?_⟩
  · have e : i = tN T := by omega
    subst e
    have hmp := hN.1
    refine loop_up m (P := fun j => ∀ N2 : xM, 0 ≤ j → (∀ z : Int, 0 ≤ z → z < j → N2 (r + 12) z = rl T (N (r + 11) z)) → (∀ b z : Int, ¬ b = r + 12 → N2 b z = N b z) → Ru (d + 4) kMo_laysPlaces 49 [xO 9 r, xAI na c, xI o, xI j] [] N2 Q) (fun j hj ihj N2 j0 e1 hf2 => ?_) 0 hN.2.1 N (Int.le_refl _) (fun z z0 z1 => by omega) (fun _ _ _ => rfl)
    refine vMo_laysPlaces_49 ?_
    rw [hf2 r 12 (by omega), hmp]
    refine ⟨fun q2 => h N2 m ?_ (by omega) (fun z z0 z1 => by rw [hf2 (r + 11) z (by omega)]; exact e1 z z0 (by omega)) (fun b z h1 h2 h3 => by rw [hf2 b z h2]; exact hf b z h1 h2 h3), fun q2 => ⟨by omega, ?_⟩⟩
    · unfold isPlc
      simp only [hf2 (r + 11) _ (show ¬ r + 11 = r + 12 by omega), hf2 r 12 (by omega)]
      exact hN
    · refine qMo_ruleOf hw (hct (fun b z h1 h2 h3 => by rw [hf2 b z h2]; exact hf b z h1 h2 h3)) o0 o1 o2 (vMo_laysPlaces_74 ⟨by omega, ?_⟩)
      rw [z32_id (by omega) (by omega)]
      refine ihj (j + 1) (by omega) (by omega) _ (by omega) (fun z z0 z1 => ?_) (fun b z hb => by rw [up_ne hb]; exact hf2 b z hb)
      rcases (show z = j ∨ z < j by omega) with u | u
      · rw [u, up_same, hf2 (r + 11) j (by omega)]; rfl
      · rw [up_off (by omega)]; exact e1 z z0 u
  · have hv := (hw.2.1 i i0 (by omega)).1
    refine qMo_firstOf hw hcN o0 o1 o2 i0 (by omega) (vMo_laysPlaces_28 (qMo_addsPlace hN (by omega) (fun N1 k1 hN1 l1 l2 hf1 => vMo_laysPlaces_31 ?_)))
    have hfN1 : ∀ b j : Int, ¬ b = r + 11 → ¬ b = r + 12 → ¬ (b = r ∧ j = 12) → N1 b j = M b j := fun b j h1 h2 h3 => by rw [hf1 b j h1 h3]; exact hf b j h1 h2 h3
    refine qMo_behindOf hw (hct hfN1) o0 o1 o2 i0 (by omega) (vMo_laysPlaces_38 (qMo_addsPlace hN1 (by omega) (fun N2 k2 hN2 l3 l4 hf2 => vMo_laysPlaces_41 ?_)))
    rw [z32_id (by omega) (by omega)]
    exact ih (i + 1) (by omega) (by omega) N2 k2 (by omega) (isPlc_S hN2 (fun y => plS_s hw i0 (by omega))) (by omega) (fun b j h1 h2 h3 => by rw [hf2 b j h1 h3]; exact hfN1 b j h1 h2 h3)

/-! KINDS IN THE REFERENCE. -/
section RefKindMath
variable {T : TB} {s : Int} {lf vl lv K R : Int → Int}
/-- kinds are known up to node n of level l -/
def KJ (T : TB) (lf vl K : Int → Int) (l n : Int) : Prop := (∀ k o : Int, l < k → k < tZ T → lf k ≤ o → o < lf (k + 1) → isKn T lf vl K k o) ∧ ∀ o : Int, lf l ≤ o → o < n → isKn T lf vl K l o
theorem KJ_s (hw : tWF T) (hnum : isNum T s lf vl lv) {l n x : Int} (l0 : 0 ≤ l) (l1 : l < tZ T) (n0 : lf l ≤ n) (n1 : n < lf (l + 1)) (h : KJ T lf vl K l n) (hx : (x = n ∧ ∀ o : Int, lf l ≤ o → o < n → K o = o → ¬ isLike T lf vl K l o n) ∨ ((lf l ≤ x ∧ x < n) ∧ K x = x ∧ isLike T lf vl K l x n)) : KJ T lf vl (uf K n x) l (n + 1) := by
  have eK : ∀ o : Int, ¬ o = n → uf K n x o = K o := fun o ho => uf_ne ho
  have eKn : uf K n x n = x := uf_at rfl
  have ech : l + 1 < tZ T → ∀ c : Int, lf (l + 1) ≤ c → c < lf (l + 2) → uf K n x c = K c := fun _ c c0 _ => eK c (by omega)
  have lk : ∀ a b : Int, lf l ≤ a → a < n + 1 → lf l ≤ b → b < n + 1 → (isLike T lf vl (uf K n x) l a b ↔ isLike T lf vl K l a b) := fun a b a0 a1 b0 b1 => by
    constructor
    · intro z
      exact like_cg hnum l0 l1 a0 (by omega) b0 (by omega) (fun _ _ _ => rfl) (fun _ _ _ => rfl) (fun y c c0 c1 => (ech y c c0 c1).symm) z hw
    · intro z
      exact like_cg hnum l0 l1 a0 (by omega) b0 (by omega) (fun _ _ _ => rfl) (fun _ _ _ => rfl) ech z hw
  have hna : ∀ o : Int, lf l ≤ o → o < n + 1 → nAt T lf vl lv o l := fun o o0 o1 => num_nd hw hnum l0 l1 o0 (by omega)
  have xb : lf l ≤ x ∧ x ≤ n := by
    rcases hx with ⟨e, -⟩ | ⟨e, -⟩
    · omega
    · omega
  refine ⟨fun k o k0 k1 o0 o1 => ?_, fun o o0 o1 => ?_⟩
  · have mk := num_mono hnum (i := l + 1) (j := k) (by omega) (by omega) (by omega)
    obtain ⟨g1, g2, g3, g4⟩ := h.1 k o k0 k1 o0 o1
    have ech2 : k + 1 < tZ T → ∀ c : Int, lf (k + 1) ≤ c → c < lf (k + 2) → uf K n x c = K c := fun z c c0 _ => eK c (by have := num_mono hnum (i := k) (j := k + 1) (by omega) (by omega) (by omega); omega)
    refine ⟨by rw [eK o (by omega)]; exact g1, by rw [eK o (by omega), eK (K o) (by omega)]; exact g2, ?_, fun j j0 j1 hj => ?_⟩
    · rw [eK o (by omega)]
      exact like_cg hnum (by omega) k1 g1.1 (by omega) o0 o1 (fun _ _ _ => rfl) (fun _ _ _ => rfl) ech2 g3 hw
    · rw [eK o (by omega)] at j1
      rw [eK j (by omega)] at hj
      intro z
      exact g4 j j0 j1 hj (like_cg hnum (by omega) k1 j0 (by omega) o0 o1 (fun _ _ _ => rfl) (fun _ _ _ => rfl) (fun y c c0 c1 => (ech2 y c c0 c1).symm) z hw)
  · by_cases e : o = n
    · subst e
      rcases hx with ⟨e1, g⟩ | ⟨e1, e2, e3⟩
      · refine ⟨by rw [eKn]; exact xb, by rw [eKn, uf_at e1], ?_, fun j j0 j1 hj => ?_⟩
        · have hr9 := (lk o o o0 (by omega) o0 (by omega)).mpr (like_refl hw hnum (hna o o0 (by omega)))
          have e9 : uf K o x o = o := uf_at rfl |>.trans e1
          rw [e9]
          exact hr9
        · rw [eKn] at j1
          rw [eK j (by omega)] at hj
          rw [lk j o j0 (by omega) o0 (by omega)]
          exact g j j0 (by omega) hj
      · refine ⟨by rw [eKn]; exact xb, by rw [eKn, eK x (by omega)]; exact e2, ?_, fun j j0 j1 hj => ?_⟩
        · rw [eKn]
          exact (lk x o e1.1 (by omega) o0 (by omega)).mpr e3
        · rw [eKn] at j1
          rw [eK j (by omega)] at hj
          rw [lk j o j0 (by omega) o0 (by omega)]
          intro z
          have hxk := h.2 x e1.1 e1.2
          refine hxk.2.2.2 j j0 (by rw [e2]; exact j1) hj ?_
          exact like_trans hw hnum (hna o o0 (by omega)) z (like_symm e3)
    · obtain ⟨g1, g2, g3, g4⟩ := h.2 o o0 (by omega)
      refine ⟨by rw [eK o e]; exact g1, by rw [eK o e, eK (K o) (by omega)]; exact g2, ?_, fun j j0 j1 hj => ?_⟩
      · rw [eK o e]
        exact (lk (K o) o g1.1 (by omega) o0 (by omega)).mpr g3
      · rw [eK o e] at j1
        rw [eK j (by omega)] at hj
        rw [lk j o j0 (by omega) o0 (by omega)]
        exact g4 j j0 j1 hj
/-- the row of a node's slots -/
def kRow (T : TB) (lf vl K R : Int → Int) (l n : Int) (P : Nat) : Prop := ∀ q : Nat, q < P → (lfb T (vl n + q * wd (tB (tS T) (l + 1).toNat)) (wd (tB (tS T) (l + 1).toNat)) = true → R (64 * n + q) = cod T (vl n + q * wd (tB (tS T) (l + 1).toNat))) ∧ (lfb T (vl n + q * wd (tB (tS T) (l + 1).toNat)) (wd (tB (tS T) (l + 1).toNat)) = false → ∃ c : Int, chd T lf vl l n q c ∧ R (64 * n + q) = 2000 + K c)
theorem like_kRow (hw : tWF T) (h : isNum T s lf vl lv) {l a b : Int} (ha : nAt T lf vl lv a l) (hb : nAt T lf vl lv b l) (hra : kRow T lf vl K R l a (2 ^ (tS T l).toNat)) (hrb : kRow T lf vl K R l b (2 ^ (tS T l).toNat)) (hK : l + 1 < tZ T → ∀ c : Int, lf (l + 1) ≤ c → c < lf (l + 2) → 0 ≤ K c) : isLike T lf vl K l a b ↔ ∀ q : Nat, q < 2 ^ (tS T l).toNat → R (64 * a + q) = R (64 * b + q) := by
  constructor
  · intro hl q hq
    obtain ⟨g1, g2, g3⟩ := hl q hq
    cases e : lfb T (vl a + q * wd (tB (tS T) (l + 1).toNat)) (wd (tB (tS T) (l + 1).toNat)) with
    | true =>
      rw [(hra q hq).1 e, (hrb q hq).1 (by rw [← g1]; exact e)]
      exact g2 e
    | false =>
      obtain ⟨c, c1, c2⟩ := (hra q hq).2 e
      obtain ⟨c', d1, d2⟩ := (hrb q hq).2 (by rw [← g1]; exact e)
      rw [c2, d2, g3 e c c' c1 d1]
  · intro hr q hq
    have hq' := hr q hq
    have ca := cod_ge hw (vl a + q * wd (tB (tS T) (l + 1).toNat))
    have cb := cod_ge hw (vl b + q * wd (tB (tS T) (l + 1).toNat))
    cases e : lfb T (vl a + q * wd (tB (tS T) (l + 1).toNat)) (wd (tB (tS T) (l + 1).toNat)) with
    | true =>
      have r1 := (hra q hq).1 e
      cases e2 : lfb T (vl b + q * wd (tB (tS T) (l + 1).toNat)) (wd (tB (tS T) (l + 1).toNat)) with
      | true =>
        have r2 := (hrb q hq).1 e2
        exact ⟨rfl, fun _ => by omega, fun z => absurd z (by decide)⟩
      | false =>
        obtain ⟨c, c1, c2⟩ := (hrb q hq).2 e2
        have h9 := hK (chd_ex hw h hb hq e2).1 c c1.1.1 c1.1.2
        omega
    | false =>
      obtain ⟨c, c1, c2⟩ := (hra q hq).2 e
      have h9 := (chd_ex hw h ha hq e).1
      have h8 := hK h9 c c1.1.1 c1.1.2
      cases e2 : lfb T (vl b + q * wd (tB (tS T) (l + 1).toNat)) (wd (tB (tS T) (l + 1).toNat)) with
      | true =>
        have r2 := (hrb q hq).1 e2
        omega
      | false =>
        obtain ⟨c', d1, d2⟩ := (hrb q hq).2 e2
        refine ⟨rfl, fun z => absurd z (by decide), fun _ x y hx hy => ?_⟩
        rw [chd_u h ha.1.1 h9 hx c1, chd_u h ha.1.1 h9 hy d1]
        omega
end RefKindMath
section RefKind
variable {d : Nat} {M : xM} {Q : xQ} {T : TB} {r : Int}
theorem qMo_slotFirst {n l q : Int} (hw : tWF T) (hR : RL M r T) (ha : nAt T (M (r + 15)) (M (r + 14)) (M (r + 13)) n l) (q0 : 0 ≤ q) (q1 : q < 2 ^ (tS T l).toNat) (h : Q (xL (M (r + 14) n + q * wd (tB (tS T) (l + 1).toNat))) M) : Ru (d + 2) kMo_slotFirst 0 [xO 9 r, xI n, xI q] [] M Q := by
  have hb := num_bd (RL_num hw hR) ha
  have hb2 := RL_b hw hR
  have hs := (nd_sl hw ha.2.2.2.1).2 q q0 q1
  have hp := wd_pos (tB (tS T) (l + 1).toNat)
  have hv := ha.2.2.2.1.2.1
  refine vMo_slotFirst_0 ⟨by omega, by omega, ?_⟩
  rw [ha.2.2.1]
  refine qMo_slotSize hw hR.1 (Or.inl rfl) ha.1.1 ha.1.2 (vMo_slotFirst_19 ?_)
  rw [z64_id (x := q * _) (by omega) (by omega), z64_id (by omega) (by omega)]
  exact h
theorem qMo_leads {n l q : Int} (hw : tWF T) (hR : RL M r T) (ha : nAt T (M (r + 15)) (M (r + 14)) (M (r + 13)) n l) (q0 : 0 ≤ q) (q1 : q < 2 ^ (tS T l).toNat) (h1 : ¬ lfp T (M (r + 14) n + q * wd (tB (tS T) (l + 1).toNat)) (wd (tB (tS T) (l + 1).toNat)) → Q (xI 1) M) (h0 : lfp T (M (r + 14) n + q * wd (tB (tS T) (l + 1).toNat)) (wd (tB (tS T) (l + 1).toNat)) → Q (xI 0) M) : Ru (d + 3) kMo_leads 0 [xO 9 r, xI n, xI q] [] M Q := by
  have hb := num_bd (RL_num hw hR) ha
  have hb2 := RL_b hw hR
  have hs := (nd_sl hw ha.2.2.2.1).2 q q0 q1
  have hp := wd_pos (tB (tS T) (l + 1).toNat)
  have hv := ha.2.2.2.1.2.1
  refine vMo_leads_0 (qMo_slotFirst hw hR ha q0 q1 (vMo_leads_8 ⟨by omega, ?_⟩))
  rw [ha.2.2.1]
  refine qMo_slotSize hw hR.1 (Or.inl rfl) ha.1.1 ha.1.2 (vMo_leads_19 ?_)
  exact qMo_isOne hR.1 (Or.inl rfl) (by omega) hp hs.2 (fun z => vMo_leads_22 ⟨fun _ => h0 z, fun z2 => absurd (by decide) z2⟩) (fun z => vMo_leads_22 ⟨fun z2 => absurd rfl z2, fun _ => h1 z⟩)
theorem qMo_laysKinds {n l : Int} (hw : tWF T) (hR : RL M r T) (ha : nAt T (M (r + 15)) (M (r + 14)) (M (r + 13)) n l) (hK : l + 1 < tZ T → ∀ c : Int, M (r + 15) (l + 1) ≤ c → c < M (r + 15) (l + 2) → 0 ≤ M (r + 26) c ∧ M (r + 26) c < 2000) (h : ∀ N : xM, kRow T (M (r + 15)) (M (r + 14)) (M (r + 26)) (N (r + 27)) l n (2 ^ (tS T l).toNat) → (∀ b j : Int, ¬ (b = r + 27 ∧ 64 * n ≤ j ∧ j < 64 * n + 64) → N b j = M b j) → Q xU N) : Ru (d + 4) kMo_laysKinds 0 [xO 9 r, xI n, xU, xU, xU, xU, xU] [] M Q := by
  have hnum := RL_num hw hR
  have hb := num_bd hnum ha
  have hb2 := RL_b hw hR
  have hz := hw.2.2.2.2.2.1
  have hl := ha.1
  have hs64 := P64 hw hl.1 hl.2
  have hp := wd_pos (tB (tS T) (l + 1).toNat)
  have hv := ha.2.2.2.1.2.1
  have hsl := (nd_sl hw ha.2.2.2.1).2
  have e8 := hR.1.2.2.1
  have main : ∀ a : Int, a ≤ 2 ^ (tS T l).toNat → ∀ (N : xM) (ch : Int) (w5 : xV), 0 ≤ a → kRow T (M (r + 15)) (M (r + 14)) (M (r + 26)) (N (r + 27)) l n a.toNat → (∀ b j : Int, ¬ (b = r + 27 ∧ 64 * n ≤ j ∧ j < 64 * n + 64) → N b j = M b j) → (l + 1 < tZ T → M (r + 15) (l + 1) ≤ ch ∧ ∀ m : Int, M (r + 15) (l + 1) ≤ m → m < ch → M (r + 14) m < M (r + 14) n + a * wd (tB (tS T) (l + 1).toNat)) → Ru (d + 4) kMo_laysKinds 35 [xO 9 r, xI n, xI l, xI ch, xI a, w5, xU] [] N Q := by
    refine loop_up (2 ^ (tS T l).toNat) (fun a ha1 ih N ch w5 a0 hk hf hc => ?_)
    have hRN : RL N r T := RL_fr hR (fun b j b0 b1 => hf b j (by omega)) (hf _ _ (by omega))
    have g13 : N (r + 13) = M (r + 13) := funext fun j => hf _ _ (by omega)
    have g14 : N (r + 14) = M (r + 14) := funext fun j => hf _ _ (by omega)
    have g15 : N (r + 15) = M (r + 15) := funext fun j => hf _ _ (by omega)
    have g26 : N (r + 26) = M (r + 26) := funext fun j => hf _ _ (by omega)
    have haN : nAt T (N (r + 15)) (N (r + 14)) (N (r + 13)) n l := by rw [g13, g14, g15]; exact ha
    refine vMo_laysKinds_35 (qMo_slotsAt hw hRN.1 (Or.inl rfl) hl.1 hl.2 (vMo_laysKinds_43 ⟨fun y => ?_, fun y => ?_⟩))
    · have ea : a = 2 ^ (tS T l).toNat := by omega
      rw [ea, p2i, Int.toNat_natCast] at hk
      exact h N hk hf
    · have hsa := hsl a a0 (by omega)
      have ha64 : a < 64 := by have y9 := y; rw [p2i] at y9; omega
      have rows : ∀ (N2 : xM) (x : Int), ((lfb T (M (r + 14) n + a * wd (tB (tS T) (l + 1).toNat)) (wd (tB (tS T) (l + 1).toNat)) = true → x = cod T (M (r + 14) n + a * wd (tB (tS T) (l + 1).toNat))) ∧ (lfb T (M (r + 14) n + a * wd (tB (tS T) (l + 1).toNat)) (wd (tB (tS T) (l + 1).toNat)) = false → ∃ c : Int, chd T (M (r + 15)) (M (r + 14)) l n a.toNat c ∧ x = 2000 + M (r + 26) c)) → N2 = up N (r + 27) (64 * n + a) x → kRow T (M (r + 15)) (M (r + 14)) (M (r + 26)) (N2 (r + 27)) l n (a + 1).toNat ∧ ∀ b j : Int, ¬ (b = r + 27 ∧ 64 * n ≤ j ∧ j < 64 * n + 64) → N2 b j = M b j := fun N2 x hx e2 => by
        subst e2
        refine ⟨fun q hq => ?_, fun b j hb3 => by rw [up_un (by omega)]; exact hf b j hb3⟩
        by_cases e : (q : Int) = a
        · rw [up_at rfl (by omega), e]
          rw [show a.toNat = q by omega] at hx
          exact hx
        · rw [up_off (by omega)]
          exact hk q (by omega)
      refine qMo_slotFirst hw hRN haN a0 (by omega) (vMo_laysKinds_53 (qMo_leads hw hRN haN a0 (by omega) (fun z => vMo_laysKinds_62 ⟨fun _ => ?_, fun z2 => absurd (by decide) z2⟩) (fun z => vMo_laysKinds_62 ⟨fun z2 => absurd rfl z2, fun _ => ?_⟩)))
      · rw [g14] at z ⊢
        have elf := lfb_f z
        have elf' : lfb T (M (r + 14) n + (a.toNat : Int) * wd (tB (tS T) (l + 1).toNat)) (wd (tB (tS T) (l + 1).toNat)) = false := by rw [show (a.toNat : Int) = a by omega]; exact elf
        have hqa : a.toNat < 2 ^ (tS T l).toNat := by have := Classical.not_not.mp (fun zz => y (Int.not_lt.mp zz)); rw [p2i] at this; omega
        obtain ⟨hl1, c0, hc0⟩ := chd_ex hw hnum ha hqa elf'
        obtain ⟨hc1, hc2⟩ := hc hl1
        have m1 := num_mono hnum (i := l + 2) (j := tZ T) (by omega) (by omega) (Int.le_refl _)
        have m2 := num_mono hnum (i := 0) (j := l + 1) (by decide) (by omega) (by omega)
        have hn1 := hnum.1
        have hseq := (hnum.2.2 (l + 1) (by omega) hl1).1
        have hc0v := hc0.2
        rw [show (a.toNat : Int) = a by omega] at hc0v
        have hc0b := hc0.1
        have walk : ∀ c : Int, c ≤ c0 → M (r + 15) (l + 1) ≤ c → Ru (d + 4) kMo_laysKinds 87 [xO 9 r, xI n, xI l, xI c, xI a, xL (M (r + 14) n + a * wd (tB (tS T) (l + 1).toNat)), xU] [] N Q := by
          refine loop_up c0 (fun c hcc ihc cb => ?_)
          have hv2 : M (r + 14) c ≤ M (r + 14) c0 := by
            by_cases e : c = c0
            · rw [e]; exact Int.le_refl _
            · exact Int.le_of_lt (hseq.2.1 c c0 cb (by omega) (by rw [show l + 1 + 1 = l + 2 by omega]; omega))
          refine vMo_laysKinds_87 ?_
          rw [g14, g26]
          refine ⟨by omega, fun y2 => ?_, fun y2 => ?_⟩
          · have ec : c = c0 := chd_u hnum ha.1.1 hl1 (q := a.toNat) (n := n) ⟨⟨cb, by omega⟩, by rw [show (a.toNat : Int) = a by omega]; omega⟩ hc0
            have hkc := hK hl1 c (by omega) (by omega)
            rw [z32_id (x := 64 * n) (by omega) (by omega), z32_id (x := 64 * n + a) (by omega) (by omega), z32_id (x := 2000 + _) (by omega) (by omega), z32_id (x := a + 1) (by omega) (by omega)]
            refine ⟨by omega, by omega, ?_⟩
            obtain ⟨r1, r2⟩ := rows (up N (r + 27) (64 * n + a) (2000 + M (r + 26) c)) _ ⟨fun z9 => by rw [elf] at z9; exact absurd z9 (by decide), fun _ => ⟨c0, hc0, by rw [ec]⟩⟩ rfl
            refine ih (a + 1) (by omega) (by omega) _ c _ (by omega) r1 r2 (fun _ => ⟨cb, fun m m0 m1 => ?_⟩)
            have hm : M (r + 14) m < M (r + 14) c := hseq.2.1 m c m0 m1 (by rw [show l + 1 + 1 = l + 2 by omega]; omega)
            have : a * wd (tB (tS T) (l + 1).toNat) ≤ (a + 1) * wd (tB (tS T) (l + 1).toNat) := Int.mul_le_mul_of_nonneg_right (by omega) (Int.le_of_lt hp)
            omega
          · have hne : ¬ c = c0 := fun e => by rw [e] at y2; omega
            rw [z32_id (by omega) (by omega)]
            exact ihc (c + 1) (by omega) (by omega) (by omega)
        refine walk ch ?_ hc1
        refine Classical.byContradiction fun z9 => ?_
        have := hc2 c0 hc0b.1 (by omega)
        omega
      · rw [g14] at z ⊢
        have elf := lfb_t z
        refine qMo_codeAt hRN.1 (Or.inl rfl) (by omega) (by omega) (vMo_laysKinds_83 ?_)
        rw [z32_id (x := 64 * n) (by omega) (by omega), z32_id (x := 64 * n + a) (by omega) (by omega), z32_id (x := a + 1) (by omega) (by omega)]
        refine ⟨by omega, ?_⟩
        obtain ⟨r1, r2⟩ := rows (up N (r + 27) (64 * n + a) (cod T (M (r + 14) n + a * wd (tB (tS T) (l + 1).toNat)))) _ ⟨fun _ => rfl, fun z9 => by rw [elf] at z9; exact absurd z9 (by decide)⟩ rfl
        refine ih (a + 1) (by omega) (by omega) _ ch _ (by omega) r1 r2 (fun y9 => ⟨(hc y9).1, fun m m0 m1 => ?_⟩)
        have h9 := (hc y9).2 m m0 m1
        have : a * wd (tB (tS T) (l + 1).toNat) ≤ (a + 1) * wd (tB (tS T) (l + 1).toNat) := Int.mul_le_mul_of_nonneg_right (by omega) (Int.le_of_lt hp)
        omega
  refine vMo_laysKinds_0 ?_
  rw [ha.2.2.1, e8, z32_id (x := l + 1) (by omega) (by omega)]
  have p0 : (0 : Int) ≤ 2 ^ (tS T l).toNat := by rw [p2i]; exact Int.natCast_nonneg _
  refine ⟨by omega, by decide, fun y => ?_, fun y => ⟨by omega, ?_⟩⟩
  · exact main 0 p0 M 0 _ (by decide) (fun q hq => absurd hq (Nat.not_lt_zero _)) (fun _ _ _ => rfl) (fun z => by omega)
  · exact main 0 p0 M _ _ (by decide) (fun q hq => absurd hq (Nat.not_lt_zero _)) (fun _ _ _ => rfl) (fun z => ⟨Int.le_refl _, fun m m0 m1 => by omega⟩)
theorem qMo_areLike {a b l : Int} (hw : tWF T) (hR : RL M r T) (ha : nAt T (M (r + 15)) (M (r + 14)) (M (r + 13)) a l) (hb : nAt T (M (r + 15)) (M (r + 14)) (M (r + 13)) b l) (h1 : (∀ q : Nat, q < 2 ^ (tS T l).toNat → M (r + 27) (64 * a + q) = M (r + 27) (64 * b + q)) → Q (xI 1) M) (h0 : ¬ (∀ q : Nat, q < 2 ^ (tS T l).toNat → M (r + 27) (64 * a + q) = M (r + 27) (64 * b + q)) → Q (xI 0) M) : Ru (d + 1) kMo_areLike 0 [xO 9 r, xI a, xI b, xU] [] M Q := by
  have hnum := RL_num hw hR
  have hba := num_bd hnum ha
  have hbb := num_bd hnum hb
  have hb2 := RL_b hw hR
  have hs64 := P64 hw ha.1.1 ha.1.2
  have p0 : (0 : Int) ≤ 2 ^ (tS T l).toNat := by rw [p2i]; exact Int.natCast_nonneg _
  refine vMo_areLike_0 (loop_up (2 ^ (tS T l).toNat) (P := fun i => 0 ≤ i → (∀ q : Nat, (q : Int) < i → M (r + 27) (64 * a + q) = M (r + 27) (64 * b + q)) → Ru (d + 1) kMo_areLike 2 [xO 9 r, xI a, xI b, xI i] [] M Q) (fun i hi ih i0 hok => ?_) 0 p0 (by decide) (fun q hq => by omega))
  have hi64 : i ≤ 64 := by rw [p2i] at hi; omega
  refine vMo_areLike_2 ⟨by omega, ?_⟩
  rw [ha.2.2.1]
  refine qMo_slotsAt hw hR.1 (Or.inl rfl) ha.1.1 ha.1.2 (vMo_areLike_14 ⟨fun y => h1 (fun q hq => hok q (by rw [p2i] at y; omega)), fun y => ?_⟩)
  rw [p2i] at y
  rw [z32_id (x := 64 * a) (by omega) (by omega), z32_id (x := 64 * b) (by omega) (by omega), z32_id (x := 64 * a + i) (by omega) (by omega), z32_id (x := 64 * b + i) (by omega) (by omega), z32_id (x := i + 1) (by omega) (by omega)]
  refine ⟨by omega, by omega, fun y2 => ?_, fun y2 => h0 (fun z => y2 ?_)⟩
  · refine ih (i + 1) (by omega) (by rw [p2i]; omega) (by omega) (fun q hq => ?_)
    by_cases e : (q : Int) = i
    · rw [e]; exact y2
    · exact hok q (by omega)
  · have := z i.toNat (by omega)
    rw [show (i.toNat : Int) = i by omega] at this
    exact this
theorem qMo_laysClasses (hw : tWF T) (hR : RL M r T) (hc : M r 19 = 0 ∨ (M r 19 = 1 ∧ isKind T (M (r + 15)) (M (r + 14)) (M (r + 26)))) (h : ∀ N : xM, N r 19 = 1 → isKind T (M (r + 15)) (M (r + 14)) (N (r + 26)) → (∀ b j : Int, ¬ (b = r ∧ j = 19) → ¬ b = r + 26 → ¬ b = r + 27 → N b j = M b j) → Q xU N) : Ru (d + 5) kMo_laysClasses 0 [xO 9 r, xU, xU, xU] [] M Q := by
  have hz := hw.2.2.2.2.2.1
  have hnum := RL_num hw hR
  have hb2 := RL_b hw hR
  have e8 := hR.1.2.2.1
  refine vMo_laysClasses_0 ⟨fun y => ⟨by decide, ?_⟩, fun y => ?_⟩
  · rw [up_un (by omega), e8, z32_id (by omega) (by omega)]
    refine loop_dn (-1) (P := fun l => ∀ (N : xM) (w2 w3 : xV), l < tZ T → KJ T (M (r + 15)) (M (r + 14)) (N (r + 26)) (l + 1) (M (r + 15) (l + 1)) → (∀ j o : Int, l < j → j < tZ T → M (r + 15) j ≤ o → o < M (r + 15) (j + 1) → isKn T (M (r + 15)) (M (r + 14)) (N (r + 26)) j o) → N r 19 = 1 → (∀ b j : Int, ¬ (b = r ∧ j = 19) → ¬ b = r + 26 → ¬ b = r + 27 → N b j = M b j) → Ru (d + 5) kMo_laysClasses 22 [xO 9 r, xI l, w2, w3] [] N Q) (fun l hl ih N w2 w3 l1 _ hk h19 hf => ?_) (tZ T - 1) (by omega) _ _ _ (by omega) ⟨fun k o k0 k1 => by omega, fun o o0 o1 => by omega⟩ (fun j o j0 j1 => by omega) up_same (fun b j hb3 _ _ => up_un (by omega))
    refine vMo_laysClasses_22 ⟨fun y2 => h N h19 (fun k n k0 k1 n0 n1 => hk k n (by omega) k1 n0 n1) hf, fun y2 => ⟨by omega, ?_⟩⟩
    rw [hf (r + 15) l (by omega) (by omega) (by omega)]
    have mo := num_mono hnum (i := l) (j := l + 1) (by omega) (by omega) (by omega)
    have mo0 := num_mono hnum (i := 0) (j := l) (by omega) (by omega) (by omega)
    have mo1 := num_mono hnum (i := l + 1) (j := tZ T) (by omega) (by omega) (by omega)
    have hn1 := hnum.1
    refine loop_up (M (r + 15) (l + 1)) (P := fun n => ∀ (N : xM) (w3 : xV), M (r + 15) l ≤ n → KJ T (M (r + 15)) (M (r + 14)) (N (r + 26)) l n → (∀ o : Int, M (r + 15) l ≤ o → o < n → kRow T (M (r + 15)) (M (r + 14)) (N (r + 26)) (N (r + 27)) l o (2 ^ (tS T l).toNat)) → N r 19 = 1 → (∀ b j : Int, ¬ (b = r ∧ j = 19) → ¬ b = r + 26 → ¬ b = r + 27 → N b j = M b j) → Ru (d + 5) kMo_laysClasses 33 [xO 9 r, xI l, xI n, w3] [] N Q) (fun n hn ihn N w3 n0 hJ hrw h19 hf => ?_) (M (r + 15) l) mo N _ (Int.le_refl _) ⟨hk, fun o o0 o1 => by omega⟩ (fun o o0 o1 => by omega) h19 hf
    have g15 : N (r + 15) = M (r + 15) := funext fun j => hf _ _ (by omega) (by omega) (by omega)
    have g14 : N (r + 14) = M (r + 14) := funext fun j => hf _ _ (by omega) (by omega) (by omega)
    have g13 : N (r + 13) = M (r + 13) := funext fun j => hf _ _ (by omega) (by omega) (by omega)
    have hRN : RL N r T := RL_fr hR (fun b j b0 b1 => hf b j (by omega) (by omega) (by omega)) (hf _ _ (by omega) (by omega) (by omega))
    refine vMo_laysClasses_33 ?_
    rw [z32_id (x := l + 1) (by omega) (by omega), g15]
    refine ⟨by omega, fun y3 => ?_, fun y3 => ?_⟩
    · rw [z32_id (by omega) (by omega)]
      have en : n = M (r + 15) (l + 1) := by omega
      rw [en] at hJ
      have hall : ∀ j o : Int, l + -1 < j → j < tZ T → M (r + 15) j ≤ o → o < M (r + 15) (j + 1) → isKn T (M (r + 15)) (M (r + 14)) (N (r + 26)) j o := fun j o j0 j1 o0 o1 => by
        by_cases e : j = l
        · subst e; exact hJ.2 o o0 o1
        · exact hJ.1 j o (by omega) j1 o0 o1
      exact ih (l + -1) (by omega) (by omega) N _ _ (by omega) ⟨fun k o k0 k1 o0 o1 => hall k o (by omega) k1 o0 o1, fun o o0 o1 => by rw [show l + -1 + 1 = l by omega] at o0 o1; omega⟩ hall h19 hf
    · have hna := num_nd hw hnum (by omega) l1 n0 (show n < M (r + 15) (l + 1) by omega)
      have hnaN : nAt T (N (r + 15)) (N (r + 14)) (N (r + 13)) n l := by rw [g13, g14, g15]; exact hna
      have hKb : l + 1 < tZ T → ∀ c : Int, M (r + 15) (l + 1) ≤ c → c < M (r + 15) (l + 2) → 0 ≤ N (r + 26) c ∧ N (r + 26) c < 2000 := fun hl1 c c0 c1 => by
        have h9 := (hJ.1 (l + 1) c (by omega) hl1 c0 (by rw [show l + 1 + 1 = l + 2 by omega]; exact c1)).1
        have := num_mono hnum (i := l + 2) (j := tZ T) (by omega) (by omega) (by omega)
        omega
      refine qMo_laysKinds hw hRN hnaN (by rw [g15]; exact hKb) (fun N2 hkr hf2 => vMo_laysClasses_50 ⟨by omega, ?_⟩)
      rw [g15, g14] at hkr
      have k26 : N2 (r + 26) = N (r + 26) := funext fun j => hf2 _ _ (by omega)
      have hf3 : ∀ b j : Int, ¬ (b = r ∧ j = 19) → ¬ b = r + 26 → ¬ b = r + 27 → N2 b j = M b j := fun b j h7 h8 h9 => by rw [hf2 b j (by omega)]; exact hf b j h7 h8 h9
      have p15 : N2 (r + 15) = M (r + 15) := funext fun j => hf3 _ _ (by omega) (by omega) (by omega)
      have p14 : N2 (r + 14) = M (r + 14) := funext fun j => hf3 _ _ (by omega) (by omega) (by omega)
      have p13 : N2 (r + 13) = M (r + 13) := funext fun j => hf3 _ _ (by omega) (by omega) (by omega)
      have hRN2 : RL N2 r T := RL_fr hR (fun b j b0 b1 => hf3 b j (by omega) (by omega) (by omega)) (hf3 _ _ (by omega) (by omega) (by omega))
      have hrw2 : ∀ o : Int, M (r + 15) l ≤ o → o < n + 1 → kRow T (M (r + 15)) (M (r + 14)) (N (r + 26)) (N2 (r + 27)) l o (2 ^ (tS T l).toNat) := fun o o0 o1 => by
        by_cases e : o = n
        · subst e; exact hkr
        · intro q hq
          rw [hf2 (r + 27) (64 * o + q) (by have := P64 hw (l := l) (by omega) l1; omega)]
          exact hrw o o0 (by omega) q hq
      rw [p15]
      have h19' : N2 r 19 = 1 := by rw [hf2 _ _ (by omega)]; exact h19
      -- the kind is found
      have fin : ∀ (x : Int) (w : xV), ((x = n ∧ ∀ o : Int, M (r + 15) l ≤ o → o < n → N (r + 26) o = o → ¬ isLike T (M (r + 15)) (M (r + 14)) (N (r + 26)) l o n) ∨ ((M (r + 15) l ≤ x ∧ x < n) ∧ N (r + 26) x = x ∧ isLike T (M (r + 15)) (M (r + 14)) (N (r + 26)) l x n)) → Ru (d + 5) kMo_laysClasses 33 [xO 9 r, xI l, xI (n + 1), w] [] (up N2 (r + 26) n x) Q := fun x w hx => by
        have eK : up N2 (r + 26) n x (r + 26) = uf (N (r + 26)) n x := by
          funext j
          unfold uf
          by_cases e : j = n
          · rw [if_pos e, up_at rfl e]
          · rw [if_neg e, up_off e, k26]
        have e27 : up N2 (r + 26) n x (r + 27) = N2 (r + 27) := funext fun j => up_ne (by omega)
        refine ihn (n + 1) (by omega) (by omega) _ _ (by omega) ?_ (fun o o0 o1 => ?_) (by rw [up_un (by omega)]; exact h19') (fun b j h7 h8 h9 => by rw [up_un (by omega)]; exact hf3 b j h7 h8 h9)
        · rw [eK]
          exact KJ_s hw hnum (by omega) l1 n0 (by omega) hJ hx
        · rw [eK, e27]
          intro q hq
          obtain ⟨a1, a2⟩ := hrw2 o o0 o1 q hq
          refine ⟨a1, fun z => ?_⟩
          obtain ⟨c, c1, c2⟩ := a2 z
          refine ⟨c, c1, ?_⟩
          have := c1.1
          rw [uf_ne (by omega)]
          exact c2
      refine loop_up n (P := fun o => M (r + 15) l ≤ o → (∀ m : Int, M (r + 15) l ≤ m → m < o → N (r + 26) m = m → ¬ isLike T (M (r + 15)) (M (r + 14)) (N (r + 26)) l m n) → Ru (d + 5) kMo_laysClasses 57 [xO 9 r, xI l, xI n, xI o] [] N2 Q) (fun o ho iho o0 hno => ?_) (M (r + 15) l) n0 (Int.le_refl _) (fun m m0 m1 => by omega)
      refine vMo_laysClasses_57 ?_
      rw [k26, z32_id (x := n + 1) (by omega) (by omega), z32_id (x := o + 1) (by omega) (by omega)]
      refine ⟨fun y4 => ⟨by omega, ?_⟩, fun y4 => ⟨by omega, fun y5 => ?_, fun y5 => ?_⟩⟩
      · have eo : o = n := by omega
        subst eo
        exact fin o _ (Or.inl ⟨rfl, hno⟩)
      · refine iho (o + 1) (by omega) (by omega) (by omega) (fun m m0 m1 hm => ?_)
        by_cases e : m = o
        · rw [e] at hm; exact absurd hm y5
        · exact hno m m0 (by omega) hm
      · have y5 := Classical.not_not.mp y5
        have hoa := num_nd hw hnum (by omega) l1 o0 (show o < M (r + 15) (l + 1) by omega)
        have hoN : nAt T (N2 (r + 15)) (N2 (r + 14)) (N2 (r + 13)) o l := by rw [p13, p14, p15]; exact hoa
        have hnN : nAt T (N2 (r + 15)) (N2 (r + 14)) (N2 (r + 13)) n l := by rw [p13, p14, p15]; exact hna
        have lki := like_kRow hw hnum hoa hna (hrw2 o o0 (by omega)) (hrw2 n n0 (by omega)) (fun y9 c c0 c1 => (hKb y9 c c0 c1).1)
        refine qMo_areLike hw hRN2 hoN hnN (fun z => vMo_laysClasses_78 ?_) (fun z => vMo_laysClasses_78 ?_)
        · rw [z32_id (x := n + 1) (by omega) (by omega)]
          exact ⟨fun _ => ⟨by omega, fin o _ (Or.inr ⟨⟨o0, by omega⟩, y5, lki.mpr z⟩)⟩, fun z2 => absurd (by decide) z2⟩
        · refine ⟨fun z2 => absurd rfl z2, fun _ => ?_⟩
          rw [z32_id (x := o + 1) (by omega) (by omega)]
          refine iho (o + 1) (by omega) (by omega) (by omega) (fun m m0 m1 hm => ?_)
          by_cases e : m = o
          · rw [e]; exact fun z9 => z (lki.mp z9)
          · exact hno m m0 (by omega) hm
  · rcases hc with e | ⟨e, hk⟩
    · exact absurd e y
    · exact h M e hk (fun _ _ _ _ _ => rfl)
end RefKind

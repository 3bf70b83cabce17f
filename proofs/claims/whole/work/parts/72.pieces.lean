/-! RANGES as beginnings, in both. -/
def fits (a b l : Int) : Prop := a % wd l = 0 ∧ a + wd l ≤ b
def isLen (a b l : Int) : Prop := 0 ≤ l ∧ l ≤ 32 ∧ fits a b l ∧ ∀ j : Int, 0 ≤ j → j < l → ¬ fits a b j
theorem mod_dvd {a v w : Int} (h : a % v = 0) (hd : w ∣ v) : a % w = 0 := Int.emod_eq_zero_of_dvd (Int.dvd_trans hd (Int.dvd_of_emod_eq_zero h))
theorem fits_mono {a b j l : Int} (h : fits a b j) (hl : j ≤ l) : fits a b l := ⟨mod_dvd h.1 (wd_dvd hl), by have := wd_mono hl; have := h.2; omega⟩
theorem fits_32 {a b : Int} (h : a < b) : fits a b 32 := ⟨by rw [wd_32]; omega, by rw [wd_32]; omega⟩
theorem isLen_u {a b l k : Int} (h : isLen a b l) (g : isLen a b k) : l = k := by
  rcases (show l = k ∨ l < k ∨ k < l by omega) with e | e | e
  · exact e
  · exact absurd h.2.2.1 (g.2.2.2 l h.1 e)
  · exact absurd g.2.2.1 (h.2.2.2 k g.1 e)
def isPcs (V L : Int → Int) (a b m : Int) : Prop := (1 ≤ m ∧ m ≤ 64) ∧ V 0 = a ∧ (∀ i : Int, 0 ≤ i → i < m → isLen (V i) b (L i) ∧ 0 ≤ V i ∧ V i < b) ∧ ∀ i : Int, 0 ≤ i → i < m → V i + wd (L i) = if i + 1 < m then V (i + 1) else b
/-- the pieces so far, and where the next one begins -/
def isPre (V L : Int → Int) (a b i c : Int) : Prop := (i = 0 → c = a) ∧ (0 < i → V 0 = a) ∧ (∀ k : Int, 0 ≤ k → k < i → isLen (V k) b (L k) ∧ 0 ≤ V k ∧ V k < b) ∧ ∀ k : Int, 0 ≤ k → k < i → V k + wd (L k) = if k + 1 < i then V (k + 1) else c
theorem isPre_s {V L V2 L2 : Int → Int} {a b i c l : Int} (h : isPre V L a b i c) (i0 : 0 ≤ i) (hl : isLen c b l) (c0 : 0 ≤ c) (cb : c < b) (e : ∀ k : Int, ¬ k = i → V2 k = V k ∧ L2 k = L k) (ei : V2 i = c ∧ L2 i = l) : isPre V2 L2 a b (i + 1) (c + wd l) := by
  obtain ⟨h1, h2, h3, h4⟩ := h
  refine ⟨fun z => by omega, fun _ => ?_, fun k k0 k1 => ?_, fun k k0 k1 => ?_⟩
  · by_cases ez : (0 : Int) = i
    · rw [ez, ei.1]; exact h1 ez.symm
    · rw [(e 0 ez).1]; exact h2 (by omega)
  · by_cases ek : k = i
    · rw [ek, ei.1, ei.2]; exact ⟨hl, c0, cb⟩
    · rw [(e k ek).1, (e k ek).2]; exact h3 k k0 (by omega)
  · by_cases ek : k = i
    · rw [ek, ei.1, ei.2, if_neg (by omega)]
    · rw [(e k ek).1, (e k ek).2, h4 k k0 (by omega), if_pos (show k + 1 < i + 1 by omega)]
      by_cases e2 : k + 1 < i
      · rw [if_pos e2, (e (k + 1) (by omega)).1]
      · rw [if_neg e2, show k + 1 = i by omega, ei.1]
theorem isPcs_u {V L V2 L2 : Int → Int} {a b m m2 : Int} (h : isPcs V L a b m) (g : isPcs V2 L2 a b m2) : m = m2 ∧ ∀ i : Int, 0 ≤ i → i < m → V i = V2 i ∧ L i = L2 i := by
  have go : ∀ {V L V2 L2 : Int → Int} {m m2 : Int}, isPcs V L a b m → isPcs V2 L2 a b m2 → ∀ n : Nat, (n : Int) < m → (n : Int) < m2 ∧ V n = V2 n ∧ L n = L2 n := by
    intro V L V2 L2 m m2 h g n
    induction n with
    | zero =>
      intro _
      have e : V 0 = V2 0 := h.2.1.trans g.2.1.symm
      have h1 := (h.2.2.1 0 (by omega) (by have := h.1; omega)).1
      have h2 := (g.2.2.1 0 (by omega) (by have := g.1; omega)).1
      rw [e] at h1
      exact ⟨by have := g.1; omega, e, isLen_u h1 h2⟩
    | succ n ih =>
      intro hn
      obtain ⟨a1, a2, a3⟩ := ih (by omega)
      have h1 := h.2.2.2 n (by omega) (by omega)
      have h2 := g.2.2.2 n (by omega) a1
      rw [a2, a3, h2, if_pos (show (n : Int) + 1 < m by omega)] at h1
      have h3 := h.2.2.1 ((n : Int) + 1) (by omega) (by omega)
      have h5 : (n : Int) + 1 < m2 := Classical.byContradiction fun hc => by
        rw [if_neg hc] at h1
        omega
      rw [if_pos h5] at h1
      have h4 := g.2.2.1 ((n : Int) + 1) (by omega) h5
      have e : ((n + 1 : Nat) : Int) = (n : Int) + 1 := by omega
      rw [e]
      refine ⟨h5, h1.symm, ?_⟩
      rw [← h1] at h3
      exact isLen_u h3.1 h4.1
  have le1 : m ≤ m2 := Classical.byContradiction fun hc => by
    have h0 := g.1
    have := (go h g m2.toNat (by omega)).1
    omega
  have le2 : m2 ≤ m := Classical.byContradiction fun hc => by
    have h0 := h.1
    have := (go g h m.toNat (by omega)).1
    omega
  refine ⟨by omega, fun i i0 i1 => ?_⟩
  obtain ⟨n, rfl⟩ := nat_of i0
  exact (go h g n i1).2
/-- why there are never more than 64 -/
def pInv (i a b : Int) : Prop := (a % wd (32 - i) = 0 ∧ i ≤ 32 ∧ (a = 0 → i = 0)) ∨ ∃ j : Int, 0 ≤ j ∧ i + j ≤ 63 ∧ a % wd (32 - j) = 0 ∧ b - a < wd (32 - j)
theorem half_mod {a w : Int} (hw : 0 < w) (h1 : a % w = 0) (h2 : ¬ a % (2 * w) = 0) : (a + w) % (2 * w) = 0 := by
  obtain ⟨q, rfl⟩ := Int.dvd_of_emod_eq_zero h1
  have h3 : q % 2 = 1 := by
    rcases (show q % 2 = 0 ∨ q % 2 = 1 by omega) with e | e
    · exfalso
      obtain ⟨z, rfl⟩ := Int.dvd_of_emod_eq_zero e
      apply h2
      apply Int.emod_eq_zero_of_dvd
      exact ⟨z, by rw [← Int.mul_assoc, Int.mul_comm w 2]⟩
    · exact e
  apply Int.emod_eq_zero_of_dvd
  refine ⟨(q + 1) / 2, ?_⟩
  have h4 : q + 1 = 2 * ((q + 1) / 2) := by omega
  have h5 : w * q + w = w * (q + 1) := by rw [Int.mul_add, Int.mul_one]
  rw [h5]
  conv => lhs; rw [h4]
  rw [← Int.mul_assoc, Int.mul_comm w 2]
theorem pInv_s {i a b l : Int} (i0 : 0 ≤ i) (h : pInv i a b) (a0 : 0 ≤ a) (ab : a < b) (b1 : b ≤ 4294967296) (hl : isLen a b l) : i ≤ 63 ∧ pInv (i + 1) (a + wd l) b := by
  obtain ⟨l0, l1, hf, hno⟩ := hl
  have wl := wd_pos l
  have fin : (l = 0 ∨ (1 ≤ l ∧ a % wd (l - 1) = 0)) → b - (a + wd l) < wd l := by
    intro hq
    rcases hq with e | ⟨e, e2⟩
    · rw [e] at hf
      have := hf.2
      rw [wd_0] at this
      rw [e, wd_0]
      omega
    · have h1 := hno (l - 1) (by omega) (by omega)
      have h2 := wd_half (n := l - 1) (by omega)
      rw [show l - 1 + 1 = l by omega] at h2
      have h3 : ¬ a + wd (l - 1) ≤ b := fun z => h1 ⟨e2, z⟩
      omega
  have nb : (l = 0 ∨ (1 ≤ l ∧ a % wd (l - 1) = 0)) → i + 1 + (32 - l) ≤ 63 → pInv (i + 1) (a + wd l) b := by
    intro hq hij
    have h9 := fin hq
    refine Or.inr ⟨32 - l, by omega, hij, ?_, ?_⟩
    · rw [show 32 - (32 - l) = l by omega, Int.add_emod_right]; exact hf.1
    · rw [show 32 - (32 - l) = l by omega]; exact h9
  rcases h with ⟨h1, h2, h3⟩ | ⟨j, j0, j1, j2, j3⟩
  · have i31 : i ≤ 31 := by
      by_cases e : a = 0
      · have := h3 e; omega
      · refine Classical.byContradiction fun hc => ?_
        have e2 : i = 32 := by omega
        rw [e2, show (32 : Int) - 32 = 0 by omega, wd_0] at h1
        omega
    refine ⟨by omega, ?_⟩
    by_cases e : l = 0
    · subst e
      have h6 := hf.2
      rw [wd_0] at h6
      refine Or.inr ⟨0, by omega, by omega, ?_, ?_⟩
      · rw [show (32 : Int) - 0 = 32 by omega, wd_32]; omega
      · rw [show (32 : Int) - 0 = 32 by omega, wd_32, wd_0]; omega
    · by_cases e2 : a % wd (l - 1) = 0
      · exact nb (Or.inr ⟨by omega, e2⟩) (by omega)
      · have h5 : l ≤ 32 - i := Classical.byContradiction fun hc => e2 (mod_dvd h1 (wd_dvd (by omega)))
        have h2 := wd_half (n := l - 1) (by omega)
        rw [show l - 1 + 1 = l by omega] at h2
        rw [h2] at e2
        have h7 := half_mod wl hf.1 e2
        rw [← h2] at h7
        exact Or.inl ⟨mod_dvd h7 (wd_dvd (by omega)), by omega, fun z => by omega⟩
  · have h5 : ¬ l ≤ 32 - j := fun z => by
      have := wd_mono z
      have := hf.2
      omega
    refine ⟨by omega, nb ?_ (by omega)⟩
    by_cases e : l = 0
    · exact Or.inl e
    · exact Or.inr ⟨by omega, mod_dvd j2 (wd_dvd (by omega))⟩
theorem qPieces_shortestAt {d : Nat} {M : xM} {Q : xQ} {a t : Int} (a0 : 0 ≤ a) (a1 : a ≤ t) (t1 : t < 4294967296) (h : ∀ l : Int, isLen a (t + 1) l → Q (xI l) M) : Ru (d + 1) kPieces_shortestAt 0 [xL a, xU, xL t, xU, xU] [] M Q := by
  refine vPieces_shortestAt_0 (loop_up 32 (P := fun i => 0 ≤ i → (∀ j : Int, 0 ≤ j → j < i → ¬ fits a (t + 1) j) → Ru (d + 1) kPieces_shortestAt 3 [xL a, xU, xL t, xU, xI i] [] M Q) (fun i hi ih i0 hno => ?_) 0 (by decide) (Int.le_refl _) (fun j j0 j1 => by omega))
  have wp := wd_pos i
  have wl := wd_le i0
  refine vPieces_shortestAt_3 ⟨fun q => h i ⟨i0, hi, by rw [show i = 32 by omega]; exact fits_32 (by omega), hno⟩, fun q => qRS_widthOf i0 hi (vPieces_shortestAt_16 ?_)⟩
  rw [wd_land i0 hi, z32_id (by omega) (by omega)]
  have nx : ¬ fits a (t + 1) i → Ru (d + 1) kPieces_shortestAt 3 [xL a, xU, xL t, xU, xI (i + 1)] [] M Q := fun hn => ih (i + 1) (by omega) (by omega) (by omega) (fun j j0 j1 => by
    rcases (show j < i ∨ j = i by omega) with e | e
    · exact hno j j0 e
    · rw [e]; exact hn)
  refine ⟨fun q2 => nx (fun z => q2 z.1), fun q2 => qRS_widthOf i0 hi (vPieces_shortestAt_30 ?_)⟩
  rw [z64_id (x := a + wd i) (by omega) (by omega), z64_id (by omega) (by omega), z32_id (by omega) (by omega)]
  exact ⟨fun q3 => h i ⟨i0, hi, ⟨Classical.not_not.mp q2, by omega⟩, hno⟩, fun q3 => nx (fun z => by have := z.2; omega)⟩
theorem isPcs_of {V L : Int → Int} {a b m : Int} (h : isPre V L a b m b) (ab : a < b) (m0 : 0 ≤ m) (m1 : m ≤ 64) : isPcs V L a b m := by
  have hm : 1 ≤ m := Classical.byContradiction fun hc => by have := h.1 (by omega); omega
  exact ⟨⟨hm, m1⟩, h.2.1 (by omega), h.2.2.1, h.2.2.2⟩
theorem qPieces_cut {d : Nat} {M : xM} {Q : xQ} {p a t : Int} (a0 : 0 ≤ a) (a1 : a ≤ t) (t1 : t < 4294967296) (h : ∀ N : xM, isPcs (N (p + 1)) (N (p + 2)) a (t + 1) (N p 0) → (∀ b j : Int, ¬ (b = p ∧ j = 0) → ¬ b = p + 1 → ¬ b = p + 2 → N b j = M b j) → Q xU N) : Ru (d + 2) kPieces_cut 0 [xO 4 p, xL a, xU, xL t, xU, xU, xU, xU] [] M Q := by
  refine vPieces_cut_0 ?_
  have main : ∀ c : Int, c ≤ t + 1 → ∀ (N : xM) (i : Int) (w7 : xV), N p 0 = i → 0 ≤ i → 0 ≤ c → isPre (N (p + 1)) (N (p + 2)) a (t + 1) i c → i ≤ 64 → (c < t + 1 → pInv i c (t + 1)) → (∀ b j : Int, ¬ (b = p ∧ j = 0) → ¬ b = p + 1 → ¬ b = p + 2 → N b j = M b j) → Ru (d + 2) kPieces_cut 8 [xO 4 p, xL a, xU, xL t, xU, xL c, xU, w7] [] N Q := by
    refine loop_up (t + 1) (fun c hc ih N i w7 e0 i0 c0 hp i64 hv hf => ?_)
    refine vPieces_cut_8 ⟨fun q => h N ?_ hf, fun q => ?_⟩
    · have ec : c = t + 1 := by omega
      rw [ec] at hp
      rw [e0]
      exact isPcs_of hp (by omega) i0 i64
    · rw [e0]
      have hv := hv (by omega)
      obtain ⟨l9, hl9⟩ : ∃ l, isLen c (t + 1) l := by
        refine Classical.byContradiction fun hno => ?_
        have key : ∀ l : Nat, l ≤ 33 → ∀ j : Int, 0 ≤ j → j < l → ¬ fits c (t + 1) j := by
          intro l
          induction l with
          | zero => exact fun _ j j0 j1 => by omega
          | succ l ihl =>
            intro hl j j0 j1
            rcases (show j < l ∨ j = l by omega) with e | e
            · exact ihl (by omega) j j0 e
            · intro hf2
              exact hno ⟨l, by omega, by omega, by rw [← e]; exact hf2, ihl (by omega)⟩
        exact key 33 (by omega) 32 (by omega) (by omega) (fits_32 (by omega))
      have hi63 := (pInv_s i0 hv c0 (by omega) (by omega) hl9).1
      refine ⟨fun z => by omega, fun _ => qPieces_shortestAt c0 (by omega) t1 (fun l hl => vPieces_cut_30 ?_)⟩
      have wp := wd_pos l
      have wl := wd_le hl.1
      have hfit := hl.2.2.1.2
      simp (disch := omega) only [up_un]
      rw [e0, z32_id (by omega) (by omega)]
      refine ⟨by omega, by omega, qRS_widthOf hl.1 hl.2.1 (vPieces_cut_71 ?_)⟩
      rw [z64_id (by omega) (by omega)]
      refine ih (c + wd l) (by omega) (by omega) _ (i + 1) _ up_same (by omega) (by omega) (isPre_s hp i0 hl c0 (by omega) (fun k hk => ⟨?_, ?_⟩) ⟨?_, ?_⟩) (by omega) (fun _ => (pInv_s i0 hv c0 (by omega) (by omega) hl).2) (fun b j h1 h2 h3 => ?_)
      · simp (disch := omega) only [up_un]
      · simp (disch := omega) only [up_un]
      · simp (disch := omega) only [up_un, up_at]
      · simp (disch := omega) only [up_un, up_at]
      · simp (disch := omega) only [up_un]; exact hf b j h1 h2 h3
  refine main a (by omega) _ 0 _ up_same (Int.le_refl _) a0 ⟨fun _ => rfl, fun z => by omega, fun k k0 k1 => by omega, fun k k0 k1 => by omega⟩ (by decide) (fun _ => Or.inl ⟨?_, by decide, fun _ => rfl⟩) (fun b j h1 h2 h3 => up_un (by omega))
  rw [show (32 : Int) - 0 = 32 by omega, wd_32]
  omega
/-- in the reference: cells r + 19, r + 20 -/
theorem qMo_covers {d : Nat} {M : xM} {Q : xQ} {r a t : Int} (h0 : uns t < uns a → Q (xI 0) (up M r 29 0)) (h : uns a ≤ uns t → ∀ N : xM, isPcs (N (r + 19)) (N (r + 20)) (uns a) (uns t + 1) (N r 29) → (∀ b j : Int, ¬ (b = r ∧ j = 29) → ¬ b = r + 19 → ¬ b = r + 20 → N b j = M b j) → Q (xI 1) N) : Ru (d + 1) kMo_covers 0 [xO 9 r, xI a, xI t, xU, xU, xU, xU, xU] [] M Q := by
  have ua := uns_in a
  have ut := uns_in t
  refine vMo_covers_0 (qMo_unsigned (vMo_covers_4 (qMo_unsigned (vMo_covers_9 ?_))))
  rw [z64_id (by omega) (by omega)]
  refine ⟨fun q => ?_, fun q => h0 (by omega)⟩
  have main : ∀ c : Int, c ≤ uns t + 1 → ∀ (N : xM) (i : Int) (w7 : xV), N r 29 = i → 0 ≤ i → 0 ≤ c → isPre (N (r + 19)) (N (r + 20)) (uns a) (uns t + 1) i c → i ≤ 64 → (c < uns t + 1 → pInv i c (uns t + 1)) → (∀ b j : Int, ¬ (b = r ∧ j = 29) → ¬ b = r + 19 → ¬ b = r + 20 → N b j = M b j) → Ru (d + 1) kMo_covers 27 [xO 9 r, xI a, xI t, xL c, xU, xL (uns t + 1), xU, w7] [] N Q := by
    refine loop_up (uns t + 1) (fun c hc ih N i w7 e0 i0 c0 hp i64 hv hf => ?_)
    refine vMo_covers_27 ⟨fun q => h (by omega) N ?_ hf, fun q => ?_⟩
    · have ec : c = uns t + 1 := by omega
      rw [ec] at hp
      rw [e0]
      exact isPcs_of hp (by omega) i0 i64
    · have hv := hv (by omega)
      -- the length is found
      have found : ∀ l : Int, isLen c (uns t + 1) l → Ru (d + 1) kMo_covers 78 [xO 9 r, xI a, xI t, xL c, xU, xL (uns t + 1), xU, xI l] [] N Q := by
        intro l hl
        have wp := wd_pos l
        have wl := wd_le hl.1
        have hfit := hl.2.2.1.2
        have hs := pInv_s i0 hv c0 (by omega) (by omega) hl
        refine vMo_covers_78 ?_
        simp (disch := omega) only [up_un]
        rw [e0, z32_id (by omega) (by omega)]
        refine ⟨by omega, by omega, qMo_sizeOf hl.1 hl.2.1 (vMo_covers_115 ?_)⟩
        rw [z64_id (by omega) (by omega)]
        refine ih (c + wd l) (by omega) (by omega) _ (i + 1) _ up_same (by omega) (by omega) (isPre_s hp i0 hl c0 (by omega) (fun k hk => ⟨?_, ?_⟩) ⟨?_, ?_⟩) (by omega) (fun _ => hs.2) (fun b j h1 h2 h3 => ?_)
        · simp (disch := omega) only [up_un]
        · simp (disch := omega) only [up_un]
        · simp (disch := omega) only [up_un, up_at]
        · simp (disch := omega) only [up_un, up_at]
        · simp (disch := omega) only [up_un]; exact hf b j h1 h2 h3
      refine loop_dn 0 (P := fun l => l ≤ 32 → fits c (uns t + 1) l → Ru (d + 1) kMo_covers 38 [xO 9 r, xI a, xI t, xL c, xU, xL (uns t + 1), xU, xI l] [] N Q) (fun l l0 ihl l1 hl => ?_) 32 (by decide) (Int.le_refl _) (fits_32 (by omega))
      refine vMo_covers_38 ⟨fun z => found l ⟨l0, l1, hl, fun j j0 j1 => by omega⟩, fun z => ?_⟩
      rw [z32_id (by omega) (by omega)]
      have wp := wd_pos (l - 1)
      have wl := wd_le (n := l - 1) (by omega)
      have stop : ¬ fits c (uns t + 1) (l - 1) → isLen c (uns t + 1) l := fun hn => ⟨l0, l1, hl, fun j j0 j1 hj => hn (fits_mono hj (by omega))⟩
      refine qMo_sizeOf (by omega) (by omega) (vMo_covers_51 ⟨by omega, ?_⟩)
      rw [wd_lrem c0 (by omega) (by omega), z32_id (by omega) (by omega)]
      refine ⟨fun z2 => found l (stop (fun f => z2 f.1)), fun z2 => qMo_sizeOf (by omega) (by omega) (vMo_covers_65 ?_)⟩
      rw [z64_id (by omega) (by omega), z32_id (by omega) (by omega)]
      exact ⟨fun z3 => found l (stop (fun f => by have := f.2; omega)), fun z3 => ihl (l + -1) (by omega) (by omega) (by omega) ⟨by rw [show l + -1 = l - 1 by omega]; exact Classical.not_not.mp z2, by rw [show l + -1 = l - 1 by omega]; omega⟩⟩
  refine main (uns a) (by omega) _ 0 _ up_same (Int.le_refl _) ua.1 ⟨fun _ => rfl, fun z => by omega, fun k k0 k1 => by omega, fun k k0 k1 => by omega⟩ (by decide) (fun _ => Or.inl ⟨?_, by decide, fun _ => rfl⟩) (fun b j h1 h2 h3 => up_un (by omega))
  rw [show (32 : Int) - 0 = 32 by omega, wd_32]
  omega

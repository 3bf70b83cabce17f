/-! TABLES in the reference. -/
def RN (M : xM) (c : Int) (T : TB) (K : Int → Int) : Prop := M c 0 = tN T ∧ M c 1 = tZ T ∧ (∀ k : Int, 0 ≤ k → k < tN T → M c (2 + k) = z32 (tV T k) ∧ M c (62 + k) = tL T k ∧ M c (122 + k) = tH T k) ∧ (∀ h : Int, 0 ≤ h → h ≤ 60 → M c (182 + h) = K h) ∧ ∀ l : Int, 0 ≤ l → l < tZ T → M c (243 + l) = tS T l
theorem RN_of {M : xM} {c : Int} {T : TB} : RT M c 0 T ↔ RN M c T (tK T) := by
  unfold RT RN
  have e1 : ∀ k : Int, (0 : Int) + 2 + k = 2 + k := fun k => by omega
  have e2 : ∀ k : Int, (0 : Int) + 62 + k = 62 + k := fun k => by omega
  have e3 : ∀ k : Int, (0 : Int) + 122 + k = 122 + k := fun k => by omega
  have e4 : ∀ k : Int, (0 : Int) + 182 + k = 182 + k := fun k => by omega
  have e5 : ∀ k : Int, (0 : Int) + 243 + k = 243 + k := fun k => by omega
  have e6 : (0 : Int) + 1 = 1 := by omega
  simp only [e1, e2, e3, e4, e5, e6]
theorem RN_K {M : xM} {c : Int} {T : TB} {K K2 : Int → Int} (h : RN M c T K) (e : ∀ g : Int, 0 ≤ g → g ≤ 60 → K g = K2 g) : RN M c T K2 := ⟨h.1, h.2.1, h.2.2.1, fun g g0 g1 => by rw [← e g g0 g1]; exact h.2.2.2.1 g g0 g1, h.2.2.2.2⟩
theorem RN_fr {M N : xM} {c : Int} {T : TB} {K : Int → Int} (h : RN M c T K) (e : ∀ j : Int, N c j = M c j) : RN N c T K := by
  unfold RN
  simp only [e]
  exact h
theorem qMo_value {d : Nat} {M : xM} {Q : xQ} {r k V : Int} (k0 : 0 ≤ k) (k1 : k < 200) (e : M (r + 1) (2 + k) = z32 V) (v0 : 0 ≤ V) (v1 : V < 4294967296) (h : Q (xL V) M) : Ru (d + 1) kMo_valueOf 0 [xO 9 r, xI k] [] M Q := by
  refine vMo_valueOf_0 ?_
  rw [z32_id (by omega) (by omega), e]
  refine ⟨by omega, qMo_unsigned (vMo_valueOf_11 ?_)⟩
  rw [uns_z, uns_id v0 v1]
  exact h
theorem qMo_isAhead {d : Nat} {M : xM} {Q : xQ} {r k v l V L : Int} (k0 : 0 ≤ k) (k1 : k < 60) (e : M (r + 1) (2 + k) = z32 V) (v0 : 0 ≤ V) (v1 : V < 4294967296) (e2 : M (r + 1) (62 + k) = L) (h1 : V < v ∨ (V = v ∧ L < l) → Q (xI 1) M) (h0 : ¬ (V < v ∨ (V = v ∧ L < l)) → Q (xI 0) M) : Ru (d + 2) kMo_isAhead 0 [xO 9 r, xI k, xL v, xU, xI l] [] M Q := by
  refine vMo_isAhead_0 (qMo_value k0 (by omega) e v0 v1 (vMo_isAhead_5 ⟨fun q => h1 (Or.inl q), fun q => qMo_value k0 (by omega) e v0 v1 (vMo_isAhead_15 ?_)⟩))
  rw [z32_id (by omega) (by omega), e2]
  exact ⟨fun q2 => h0 (by omega), fun q2 => ⟨by omega, fun q3 => h0 (by omega), fun q3 => h1 (by omega)⟩⟩
theorem qMo_rulesOf {d : Nat} {M : xM} {Q : xQ} {T : TB} {r g : Int} (hn : 0 ≤ tN T ∧ tN T ≤ 60) (e : M (r + 1) 0 = tN T) (eh : ∀ k : Int, 0 ≤ k → k < tN T → M (r + 1) (122 + k) = tH T k) (h : Q (xI (tU T g)) M) : Ru d kMo_rulesOf 0 [xO 9 r, xI g, xU, xU] [] M Q := by
  refine vMo_rulesOf_0 (loop_up (tN T) (P := fun i => 0 ≤ i → Ru d kMo_rulesOf 4 [xO 9 r, xI g, xI (cnt (tH T) g i.toNat), xI i] [] M Q) (fun i hi ih i0 => ?_) 0 hn.1 (Int.le_refl _))
  refine vMo_rulesOf_4 ⟨by decide, ?_⟩
  rw [e]
  refine ⟨fun q => ?_, fun q => ?_⟩
  · have ei : i = tN T := by omega
    subst ei
    exact h
  · have h1 := cnt_nn (tH T) g i.toNat
    have h2 := cnt_le (tH T) g i.toNat
    rw [z32_id (x := 122 + i) (by omega) (by omega), z32_id (x := i + 1) (by omega) (by omega), z32_id (x := _ + 0) (by omega) (by omega), z32_id (x := _ + 1) (by omega) (by omega), eh i i0 (by omega)]
    have e3 : (i + 1).toNat = i.toNat + 1 := by omega
    have e4 : ((i.toNat : Nat) : Int) = i := by omega
    have nx := ih (i + 1) (by omega) (by omega) (by omega)
    rw [e3, cnt_s, e4] at nx
    refine ⟨by omega, fun q2 => ?_, fun q2 => ?_⟩
    · rw [one1_n q2] at nx
      exact nx
    · rw [one1_p (Classical.not_not.mp q2)] at nx
      exact nx
theorem qMo_hopOf {d : Nat} {M : xM} {Q : xQ} {K : Int → Int} {r c : Int} (eK : ∀ h : Int, 0 ≤ h → h ≤ 60 → M (r + 1) (182 + h) = K h) (h1 : ∀ g : Int, 0 ≤ g → g ≤ 60 → K g = c → (∀ k : Int, 0 ≤ k → k < g → ¬ K k = c) → Q (xI g) M) (h0 : (∀ k : Int, 0 ≤ k → k ≤ 60 → ¬ K k = c) → Q (xI (-1)) M) : Ru d kMo_hopOf 0 [xO 9 r, xI c, xU] [] M Q := by
  refine vMo_hopOf_0 (loop_up 61 (P := fun i => 0 ≤ i → (∀ k : Int, 0 ≤ k → k < i → ¬ K k = c) → Ru d kMo_hopOf 2 [xO 9 r, xI c, xI i] [] M Q) (fun i hi ih i0 ha => ?_) 0 (by decide) (Int.le_refl _) (fun k h0 h1 => by omega))
  refine vMo_hopOf_2 ⟨fun q => h0 (fun k k0 k1 => ha k k0 (by omega)), fun q => ?_⟩
  rw [z32_id (x := 182 + i) (by omega) (by omega), z32_id (x := i + 1) (by omega) (by omega), eK i i0 (by omega)]
  refine ⟨by omega, fun q2 => ih (i + 1) (by omega) (by omega) (by omega) (fun k k0 k1 => ?_), fun q2 => h1 i i0 (by omega) (Classical.not_not.mp q2) ha⟩
  rcases (show k < i ∨ k = i by omega) with z | z
  · exact ha k k0 z
  · rw [z]; exact q2
theorem qMo_frees {d : Nat} {M : xM} {Q : xQ} {T : TB} {K : Int → Int} {r g : Int} (hn : 0 ≤ tN T ∧ tN T ≤ 60) (hz : tZ T ≤ 16) (hc : RN M (r + 1) T K) (g0 : 0 ≤ g) (g1 : g ≤ 60) (h : ∀ N : xM, RN N (r + 1) T (fun k => if k = g ∧ tU T g = 0 then -1 else K k) → (∀ b j : Int, ¬ b = r + 1 → N b j = M b j) → Q xU N) : Ru (d + 1) kMo_frees 0 [xO 9 r, xI g] [] M Q := by
  refine vMo_frees_0 (qMo_rulesOf hn hc.1 (fun k k0 k1 => (hc.2.2.1 k k0 k1).2.2) (vMo_frees_5 ?_))
  rw [z32_id (by omega) (by omega)]
  refine ⟨fun q => h M (RN_K hc (fun k k0 k1 => ?_)) (fun _ _ _ => rfl), fun q => ⟨by omega, h _ ?_ (fun b j hb => up_ne hb)⟩⟩
  · rw [if_neg (fun z => q z.2)]
  · have q := Classical.not_not.mp q
    refine ⟨?_, ?_, fun k k0 k1 => ⟨?_, ?_, ?_⟩, fun k k0 k1 => ?_, fun l l0 l1 => ?_⟩
    · rw [up_off (by omega)]; exact hc.1
    · rw [up_off (by omega)]; exact hc.2.1
    · rw [up_off (by omega)]; exact (hc.2.2.1 k k0 k1).1
    · rw [up_off (by omega)]; exact (hc.2.2.1 k k0 k1).2.1
    · rw [up_off (by omega)]; exact (hc.2.2.1 k k0 k1).2.2
    · show _ = if k = g ∧ tU T g = 0 then -1 else K k
      by_cases e : k = g
      · rw [if_pos ⟨e, q⟩, e, up_same]
      · rw [up_off (by omega), if_neg (fun z => e z.1)]; exact hc.2.2.2.1 k k0 k1
    · rw [up_off (by omega)]; exact hc.2.2.2.2 l l0 l1
theorem qMo_hopFor {d : Nat} {M : xM} {Q : xQ} {K : Int → Int} {r c : Int} (eK : ∀ h : Int, 0 ≤ h → h ≤ 60 → M (r + 1) (182 + h) = K h) (hex : ∃ g : Int, 0 ≤ g ∧ g ≤ 60 ∧ K g = -1) (h1 : ∀ g : Int, 0 ≤ g → g ≤ 60 → K g = c → (∀ k : Int, 0 ≤ k → k < g → ¬ K k = c) → Q (xI g) M) (h0 : (∀ k : Int, 0 ≤ k → k ≤ 60 → ¬ K k = c) → ∀ g : Int, 0 ≤ g → g ≤ 60 → K g = -1 → (∀ k : Int, 0 ≤ k → k < g → ¬ K k = -1) → Q (xI g) (up M (r + 1) (182 + g) c)) : Ru (d + 1) kMo_hopFor 0 [xO 9 r, xI c, xU] [] M Q := by
  refine vMo_hopFor_0 (qMo_hopOf eK (fun g g0 g1 e ha => vMo_hopFor_5 ⟨fun q => by omega, fun _ => h1 g g0 g1 e ha⟩) (fun hno => vMo_hopFor_5 ⟨fun _ => ?_, fun q => absurd rfl q⟩))
  refine qMo_hopOf eK (fun g g0 g1 e ha => vMo_hopFor_18 ?_) (fun hno2 => ?_)
  · rw [z32_id (by omega) (by omega)]
    exact ⟨by omega, h0 hno g g0 g1 e ha⟩
  · obtain ⟨g, g0, g1, e⟩ := hex
    exact absurd e (hno2 g g0 g1)
theorem qMo_copies {d : Nat} {M : xM} {Q : xQ} {r a b : Int} (a0 : 0 ≤ a) (a1 : a < 60) (b0 : 0 ≤ b) (b1 : b < 60) (h : ∀ N : xM, N (r + 1) (2 + a) = M (r + 1) (2 + b) → N (r + 1) (62 + a) = M (r + 1) (62 + b) → N (r + 1) (122 + a) = M (r + 1) (122 + b) → (∀ c j : Int, ¬ (c = r + 1 ∧ (j = 2 + a ∨ j = 62 + a ∨ j = 122 + a)) → N c j = M c j) → Q xU N) : Ru d kMo_copies 0 [xO 9 r, xI a, xI b] [] M Q := by
  refine vMo_copies_0 ?_
  rw [z32_id (x := 2 + a) (by omega) (by omega), z32_id (x := 62 + a) (by omega) (by omega), z32_id (x := 122 + a) (by omega) (by omega), z32_id (x := 2 + b) (by omega) (by omega), z32_id (x := 62 + b) (by omega) (by omega), z32_id (x := 122 + b) (by omega) (by omega)]
  refine ⟨by omega, by omega, by omega, by omega, by omega, by omega, h _ ?_ ?_ ?_ (fun c j hcj => ?_)⟩
  · rw [up_un (by omega), up_un (by omega), up_same]
  · rw [up_un (by omega), up_same, up_un (by omega)]
  · rw [up_same, up_un (by omega), up_un (by omega)]
  · rw [up_un (by omega), up_un (by omega), up_un (by omega)]
/-- while a rule comes in: the rules from k on stand one further -/
def pI (N : xM) (c : Int) (T : TB) (K : Int → Int) (k : Int) : Prop := N c 0 = tN T ∧ N c 1 = tZ T ∧ (∀ j : Int, 0 ≤ j → j < k → N c (2 + j) = z32 (tV T j) ∧ N c (62 + j) = tL T j ∧ N c (122 + j) = tH T j) ∧ (∀ j : Int, k < j → j ≤ tN T → N c (2 + j) = z32 (tV T (j - 1)) ∧ N c (62 + j) = tL T (j - 1) ∧ N c (122 + j) = tH T (j - 1)) ∧ (∀ h : Int, 0 ≤ h → h ≤ 60 → N c (182 + h) = K h) ∧ ∀ l : Int, 0 ≤ l → l < tZ T → N c (243 + l) = tS T l
theorem isHop_of {T : TB} {c g p : Int} (hw : tW1 T p) (c0 : 0 ≤ c) (g0 : 0 ≤ g) (g1 : g ≤ 60) (h : tK T g = c ∨ ((∀ k : Int, 0 ≤ k → k ≤ 60 → ¬ tK T k = c) ∧ tK T g = -1 ∧ ∀ k : Int, 0 ≤ k → k < g → ¬ tK T k = -1)) : isHop T c g := by
  obtain ⟨w1, ⟨p0, p1, p2⟩, w2, w3, w4, w5, w6⟩ := hw
  have used : ∀ k : Int, 0 ≤ k → ¬ tK T k = -1 → k < 60 ∧ 0 < tU T k ∧ tK T k = tY T k := by
    intro k k0 e
    have h1 : k < 60 := Classical.byContradiction fun z => e (tK_out (by omega))
    have h2 : 0 < tU T k := Classical.byContradiction fun z => e (tK_0 (by have := tU_nn T k; omega))
    exact ⟨h1, h2, tK_pos k0 h1 h2⟩
  rcases h with h | ⟨h1, h2, h3⟩
  · obtain ⟨u1, u2, u3⟩ := used g g0 (by omega)
    exact ⟨g0, u1, Or.inl ⟨u2, by rw [← u3]; exact h⟩⟩
  · have hlt : g < 60 := by
      refine Classical.byContradiction fun z => ?_
      obtain ⟨f, f0, f1, f2⟩ := free_hop (H := tH T) (n := (tN T).toNat) (p := p) (by omega) p0 (by omega) p2
      have := (used f f0 (h3 f f0 (by omega))).2.1
      have f2 : tU T f = 0 := f2
      omega
    have h0 : tU T g = 0 := by
      refine Classical.byContradiction fun z => ?_
      have hu : 0 < tU T g := by have := tU_nn T g; omega
      have := w4 g g0 hlt hu
      rw [tK_pos g0 hlt hu] at h2
      omega
    exact ⟨g0, hlt, Or.inr ⟨fun k k0 k1 z => h1 k k0 (by omega) (by rw [tK_pos k0 k1 z.1]; exact z.2), h0, fun k k0 k1 => (used k k0 (h3 k k0 k1)).2.1⟩⟩
/-- the last part of a put: a hop for the rule that has none -/
theorem qMo_puts_150 {d : Nat} {M : xM} {Q : xQ} {T : TB} {r v l c p : Int} {w : xV} (hw : tW1 T p) (c0 : 0 ≤ c) (hc : RN M (r + 1) T (tK T)) (h : ∀ (N : xM) (g : Int), isHop T c g → RN N (r + 1) (setH T p g c) (tK (setH T p g c)) → (∀ b j : Int, ¬ b = r + 1 → N b j = M b j) → Q (xI p) N) : Ru (d + 2) kMo_puts 150 [xO 9 r, xL v, xU, xI l, xI c, xI p, w] [] M Q := by
  have hw2 := hw
  obtain ⟨w1, ⟨p0, p1, p2⟩, -, -, -, -, wz, -⟩ := hw2
  have key : ∀ (N : xM) (g : Int), isHop T c g → (∀ b j : Int, ¬ b = r + 1 → N b j = M b j) → N (r + 1) (182 + g) = c → (∀ j : Int, ¬ j = 182 + g → N (r + 1) j = M (r + 1) j) → Q (xI p) (up N (r + 1) (122 + p) g) := by
    intro N g hg hf e1 e2
    have hg0 := hg.1
    have hg1 := hg.2.1
    refine h _ g hg ⟨?_, ?_, fun k k0 k1 => ⟨?_, ?_, ?_⟩, fun k k0 k1 => ?_, fun l l0 l1 => ?_⟩ (fun b j hb => by rw [up_ne hb]; exact hf b j hb)
    · rw [up_off (by omega), e2 _ (by omega)]; exact hc.1
    · rw [up_off (by omega), e2 _ (by omega)]; exact hc.2.1
    · have k1 : k < tN T := k1
      rw [up_off (by omega), e2 _ (by omega)]; exact (hc.2.2.1 k k0 k1).1
    · have k1 : k < tN T := k1
      rw [up_off (by omega), e2 _ (by omega)]; exact (hc.2.2.1 k k0 k1).2.1
    · have k1 : k < tN T := k1
      show _ = uf (tH T) p g k
      by_cases e : k = p
      · rw [uf_at e, e, up_same]
      · rw [uf_ne e, up_off (by omega), e2 _ (by omega)]; exact (hc.2.2.1 k k0 k1).2.2
    · rw [up_off (by omega), tK_set p0 p1 p2 hg0 hg1]
      by_cases e : k = g
      · rw [if_pos e, e]; exact e1
      · rw [if_neg e, e2 _ (by omega)]; exact hc.2.2.2.1 k k0 k1
    · have l1 : l < tZ T := l1
      rw [up_off (by omega), e2 _ (by omega)]; exact hc.2.2.2.2 l l0 l1
  refine vMo_puts_150 (qMo_hopFor (K := tK T) hc.2.2.2.1 ⟨60, by decide, by decide, tK_out (Int.le_refl _)⟩ (fun g g0 g1 e ha => vMo_puts_165 ?_) (fun hno g g0 g1 e ha => vMo_puts_165 ?_))
  · rw [z32_id (by omega) (by omega)]
    exact ⟨by omega, key M g (isHop_of hw c0 g0 g1 (Or.inl e)) (fun _ _ _ => rfl) ((hc.2.2.2.1 g g0 g1).trans e) (fun _ _ => rfl)⟩
  · rw [z32_id (by omega) (by omega)]
    exact ⟨by omega, key _ g (isHop_of hw c0 g0 g1 (Or.inr ⟨hno, e, ha⟩)) (fun b j hb => up_ne hb) up_same (fun j hj => up_off hj)⟩
theorem qMo_puts {d : Nat} {M : xM} {Q : xQ} {T : TB} {r v l c : Int} (hw : tWF T) (hc : RN M (r + 1) T (tK T)) (v0 : 0 ≤ v) (v1 : v < 4294967296) (l0 : 0 ≤ l) (l1 : l ≤ 32) (hv : v % wd l = 0) (c0 : 0 ≤ c) (c1 : c ≤ 999) (hroom : (∀ k, ¬ isAt T v l k) → tN T < 60)
    (h : ∀ (T2 : TB) (N : xM) (p : Int), isPut T v l c T2 → isAt T2 v l p → RN N (r + 1) T2 (tK T2) → (∀ b j : Int, ¬ b = r + 1 → N b j = M b j) → Q (xI p) N) : Ru (d + 3) kMo_puts 0 [xO 9 r, xL v, xU, xI l, xI c, xU, xU] [] M Q := by
  have hn := hw.1
  have hz := hw.2.2.2.2.2.1
  refine vMo_puts_0 (qMo_find (RN_of.mpr hc) hw (fun p hp => vMo_puts_6 ⟨fun _ => ?_, fun q => absurd q (by have := hp.1; omega)⟩) (fun hno => vMo_puts_6 ⟨fun q => absurd rfl q, fun _ => ⟨by decide, ?_⟩⟩))
  · obtain ⟨p0, p1, p2, p3⟩ := id hp
    have hh := (hw.2.1 p p0 p1).2.2.2
    rw [z32_id (x := 122 + p) (by omega) (by omega), (hc.2.2.1 p p0 p1).2.2, z32_id (x := 182 + tH T p) (by omega) (by omega), hc.2.2.2.1 _ hh.1 (by omega)]
    refine ⟨by omega, by omega, fun q => ⟨by omega, ?_⟩, fun q => h T M p (Or.inl ⟨p, hp, Classical.not_not.mp q, rfl⟩) hp hc (fun _ _ _ => rfl)⟩
    refine qMo_frees (T := clrH T p) (K := tK T) hn hz.2 ?_ hh.1 (by omega) (fun N hN hf => ?_)
    · refine ⟨?_, ?_, fun k k0 k1 => ⟨?_, ?_, ?_⟩, fun k k0 k1 => ?_, fun l l0 l1 => ?_⟩
      · rw [up_off (by omega)]; exact hc.1
      · rw [up_off (by omega)]; exact hc.2.1
      · have k1 : k < tN T := k1
        rw [up_off (by omega)]; exact (hc.2.2.1 k k0 k1).1
      · have k1 : k < tN T := k1
        rw [up_off (by omega)]; exact (hc.2.2.1 k k0 k1).2.1
      · have k1 : k < tN T := k1
        show _ = uf (tH T) p (-1) k
        by_cases e : k = p
        · rw [uf_at e, e, up_same]
        · rw [uf_ne e, up_off (by omega)]; exact (hc.2.2.1 k k0 k1).2.2
      · rw [up_off (by omega)]; exact hc.2.2.2.1 k k0 k1
      · have l1 : l < tZ T := l1
        rw [up_off (by omega)]; exact hc.2.2.2.2 l l0 l1
    · have hN2 := RN_K hN (fun k k0 k1 => (tK_clr (h := k) p0 p1).symm)
      refine qMo_puts_150 (tW1_clr hw p0 p1) c0 hN2 (fun N2 g hg hN3 hf3 => h _ N2 p (Or.inr (Or.inl ⟨p, g, hp, q, hg, rfl⟩)) ⟨p0, p1, p2, p3⟩ hN3 (fun b j hb => by rw [hf3 b j hb, hf b j hb, up_ne hb]))
  · have hr := hroom hno
    rw [hc.1]
    refine loop_dn 0 (P := fun k => ∀ N : xM, k ≤ tN T → (∀ j : Int, k ≤ j → j < tN T → ¬ tA T j v l) → pI N (r + 1) T (tK T) k → (∀ b j : Int, ¬ b = r + 1 → N b j = M b j) → Ru (d + 3) kMo_puts 22 [xO 9 r, xL v, xU, xI l, xI c, xI k, xU] [] N Q) (fun k k0 ih N kn hna hI hf => ?_) (tN T) hn.1 M (Int.le_refl _) (fun j j0 j1 => by omega) ⟨hc.1, hc.2.1, fun j j0 j1 => hc.2.2.1 j j0 j1, fun j j0 j1 => by omega, hc.2.2.2.1, hc.2.2.2.2⟩ (fun _ _ _ => rfl)
    obtain ⟨i1, i2, i3, i4, i5, i6⟩ := hI
    have fin : isPl T v l k → Ru (d + 3) kMo_puts 56 [xO 9 r, xL v, xU, xI l, xI c, xI k, xU] [] N Q := by
      intro hp
      refine vMo_puts_56 ?_
      rw [z32_id (x := 2 + k) (by omega) (by omega), z32_id (x := 62 + k) (by omega) (by omega), z32_id (x := 122 + k) (by omega) (by omega), i1, z32_id (x := tN T + 1) (by omega) (by omega)]
      refine ⟨by decide, by decide, by omega, by omega, by omega, ?_⟩
      have hw1 := tW1_ins hw hp hno hr v0 v1 l0 l1 hv
      refine qMo_puts_150 hw1 c0 ⟨?_, ?_, fun j j0 j1 => ?_, fun g g0 g1 => ?_, fun z z0 z1 => ?_⟩ (fun N2 g hg hN3 hf3 => h _ N2 k (Or.inr (Or.inr ⟨k, g, hno, hp, hr, hg, rfl⟩)) ⟨k0, by show k < tN T + 1; omega, insF_at rfl, insF_at rfl⟩ hN3 (fun b j hb => by rw [hf3 b j hb, up_ne hb, up_ne hb, up_ne hb, up_ne hb, hf b j hb]))
      · rw [up_off (by omega), up_off (by omega), up_off (by omega), up_same]; rfl
      · rw [up_off (by omega), up_off (by omega), up_off (by omega), up_off (by omega)]; exact i2
      · have j1 : j < tN T + 1 := j1
        show _ = z32 (insF (tV T) k v j) ∧ _ = insF (tL T) k l j ∧ _ = insF (tH T) k (-1) j
        rcases (show j < k ∨ j = k ∨ k < j by omega) with e | e | e
        · obtain ⟨f1, f2, f3⟩ := i3 j j0 e
          rw [insF_lt e, insF_lt e, insF_lt e]
          refine ⟨?_, ?_, ?_⟩
          · rw [up_off (by omega), up_off (by omega), up_off (by omega), up_off (by omega)]; exact f1
          · rw [up_off (by omega), up_off (by omega), up_off (by omega), up_off (by omega)]; exact f2
          · rw [up_off (by omega), up_off (by omega), up_off (by omega), up_off (by omega)]; exact f3
        · rw [insF_at e, insF_at e, insF_at e, e]
          refine ⟨?_, ?_, up_same⟩
          · rw [up_off (by omega), up_off (by omega), up_same]
          · rw [up_off (by omega), up_same]
        · obtain ⟨f1, f2, f3⟩ := i4 j e (by omega)
          rw [insF_gt e, insF_gt e, insF_gt e]
          refine ⟨?_, ?_, ?_⟩
          · rw [up_off (by omega), up_off (by omega), up_off (by omega), up_off (by omega)]; exact f1
          · rw [up_off (by omega), up_off (by omega), up_off (by omega), up_off (by omega)]; exact f2
          · rw [up_off (by omega), up_off (by omega), up_off (by omega), up_off (by omega)]; exact f3
      · rw [up_off (by omega), up_off (by omega), up_off (by omega), up_off (by omega), tK_ins hp.1 hp.2.1]; exact i5 g g0 g1
      · have z1 : z < tZ T := z1
        rw [up_off (by omega), up_off (by omega), up_off (by omega), up_off (by omega)]; exact i6 z z0 z1
    refine vMo_puts_22 ⟨fun q => fin ⟨k0, kn, fun j j0 j1 => by omega, fun z => hna k (Int.le_refl _) z⟩, fun q => ?_⟩
    rw [z32_id (by omega) (by omega)]
    obtain ⟨f1, f2, f3⟩ := i3 (k - 1) (by omega) (by omega)
    obtain ⟨a1, a2, -⟩ := hw.2.1 (k - 1) (by omega) (by omega)
    refine qMo_isAhead (V := tV T (k - 1)) (L := tL T (k - 1)) (by omega) (by omega) f1 a1.1 a1.2 f2 (fun ha => vMo_puts_37 ⟨fun _ => fin ⟨k0, kn, fun j j0 j1 => ?_, fun z => hna k (Int.le_refl _) z⟩, fun z => absurd (by decide) z⟩) (fun ha => vMo_puts_37 ⟨fun z => absurd rfl z, fun _ => ?_⟩)
    · rcases (show j = k - 1 ∨ j < k - 1 by omega) with e | e
      · rw [e]; exact ha
      · have := hw.2.2.1 j (k - 1) j0 e (by omega)
        unfold tA
        omega
    · rw [z32_id (by omega) (by omega)]
      refine qMo_copies (by omega) (by omega) (by omega) (by omega) (fun N2 c1 c2 c3 c4 => vMo_puts_50 ?_)
      rw [z32_id (by omega) (by omega)]
      refine ih (k + -1) (by omega) (by omega) N2 (by omega) (fun j j0 j1 => ?_) ⟨?_, ?_, fun j j0 j1 => ?_, fun j j0 j1 => ?_, fun g g0 g1 => ?_, fun z z0 z1 => ?_⟩ (fun b j hb => by rw [c4 b j (fun z => hb z.1)]; exact hf b j hb)
      · rcases (show j = k - 1 ∨ k ≤ j by omega) with e | e
        · rw [e]; exact ha
        · exact hna j e j1
      · rw [c4 _ _ (by omega)]; exact i1
      · rw [c4 _ _ (by omega)]; exact i2
      · rw [c4 _ _ (by omega), c4 _ _ (by omega), c4 _ _ (by omega)]; exact i3 j j0 (by omega)
      · rcases (show j = k ∨ k < j by omega) with e | e
        · rw [e, c1, c2, c3]; exact ⟨f1, f2, f3⟩
        · rw [c4 _ _ (by omega), c4 _ _ (by omega), c4 _ _ (by omega)]; exact i4 j e j1
      · rw [c4 _ _ (by omega)]; exact i5 g g0 g1
      · rw [c4 _ _ (by omega)]; exact i6 z z0 z1

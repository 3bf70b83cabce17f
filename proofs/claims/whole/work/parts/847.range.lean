/-! ACTS: range. -/
section Range
variable {d : Nat} {M N : xM} {Q : xQ} {s r : Int} {T T1 T2 : TB} {a a2 : Int} {P : Int → TB} {kp : Int} {S : Int → TB} {tt : Int} {g g2 : Int → Int} {z z2 : Int} {V L : Int → Int} {c m : Int}
theorem cq_le {P : Int → Prop} {i j : Int} (i0 : 0 ≤ i) (h : i ≤ j) : cq P i.toNat ≤ cq P j.toNat := by
  refine loop_dn i (P := fun j => cq P i.toNat ≤ cq P j.toNat) (fun j hj ih => ?_) j h
  by_cases e : j = i
  · rw [e]; exact Int.le_refl _
  · have h1 := ih (j - 1) (by omega) (by omega)
    rw [show j = (j - 1) + 1 by omega]
    by_cases q : P (j - 1)
    · rw [cq_y (by omega) q]; omega
    · rw [cq_n (by omega) q]; omega
theorem put_at {V0 L0 : Int} (h : isPut T V0 L0 c T2) : ((∃ p : Int, isAt T V0 L0 p) → tN T2 = tN T) ∧ ((∀ p : Int, ¬ isAt T V0 L0 p) → tN T2 = tN T + 1) ∧ ∀ v l : Int, ¬ (v = V0 ∧ l = L0) → ((∃ p : Int, isAt T2 v l p) ↔ ∃ p : Int, isAt T v l p) := by
  rcases h with ⟨p, hp, hk, e⟩ | ⟨p, q, hp, hk, hh, e⟩ | ⟨p, q, hn, hpl, hr, hh, e⟩
  · subst e
    exact ⟨fun _ => rfl, fun n => absurd hp (n p), fun v l _ => Iff.rfl⟩
  · subst e
    exact ⟨fun _ => rfl, fun n => absurd hp (n p), fun v l _ => Iff.rfl⟩
  · subst e
    have p0 := hpl.1
    have p1 := hpl.2.1
    refine ⟨fun ⟨k, hk⟩ => absurd hk (hn k), fun _ => rfl, fun v l hne => ⟨fun ⟨k, k0, k1, k2, k3⟩ => ?_, fun ⟨k, k0, k1, k2, k3⟩ => ?_⟩⟩
    · have k1' : k < tN T + 1 := k1
      have k2' : insF (tV T) p V0 k = v := k2
      have k3' : insF (tL T) p L0 k = l := k3
      rcases (by omega : k < p ∨ k = p ∨ p < k) with q1 | q1 | q1
      · rw [insF_lt q1] at k2' k3'
        exact ⟨k, k0, by omega, k2', k3'⟩
      · rw [insF_at q1] at k2' k3'
        exact absurd ⟨k2'.symm, k3'.symm⟩ hne
      · rw [insF_gt q1] at k2' k3'
        exact ⟨k - 1, by omega, by omega, k2', k3'⟩
    · by_cases q1 : k < p
      · exact ⟨k, k0, by show k < tN T + 1; omega, by show insF (tV T) p V0 k = v; rw [insF_lt q1]; exact k2, by show insF (tL T) p L0 k = l; rw [insF_lt q1]; exact k3⟩
      · refine ⟨k + 1, by omega, by show k + 1 < tN T + 1; omega, ?_, ?_⟩
        · show insF (tV T) p V0 (k + 1) = v
          rw [insF_gt (by omega), show k + 1 - 1 = k by omega]; exact k2
        · show insF (tL T) p L0 (k + 1) = l
          rw [insF_gt (by omega), show k + 1 - 1 = k by omega]; exact k3
/-- rules of the pieces are put, one after another -/
def isPq (T : TB) (V L : Int → Int) (c : Int) : Nat → TB → Prop
  | 0, T2 => T2 = T
  | n + 1, T2 => ∃ T1 : TB, isPq T V L c n T1 ∧ isPut T1 (V n) (L n) c T2
def pcOk (V L : Int → Int) (m : Int) : Prop := (1 ≤ m ∧ m ≤ 64) ∧ (∀ i : Int, 0 ≤ i → i < m → (0 ≤ V i ∧ V i < 4294967296) ∧ (0 ≤ L i ∧ L i ≤ 32) ∧ V i % wd (L i) = 0) ∧ ∀ i : Int, 0 ≤ i → i + 1 < m → V i < V (i + 1)
theorem pc_ok {u v : Int} (h : isPcs V L u v m) (hv : v ≤ 4294967296) : pcOk V L m := by
  refine ⟨h.1, fun i i0 i1 => ?_, fun i i0 i1 => ?_⟩
  · obtain ⟨hl, v0, v1⟩ := h.2.2.1 i i0 i1
    exact ⟨⟨v0, by omega⟩, ⟨hl.1, hl.2.1⟩, hl.2.2.1.1⟩
  · have e := h.2.2.2 i i0 (by omega)
    rw [if_pos i1] at e
    have := wd_pos (L i)
    omega
theorem pq_wf (ho : pcOk V L m) (c0 : 0 ≤ c) (c1 : c ≤ 999) (hw : tWF T) : ∀ (n : Nat) (A : TB), (n : Int) ≤ m → isPq T V L c n A → tWF A
  | 0, A, _, h => by rw [show A = T from h]; exact hw
  | n + 1, A, hn, h => by
    obtain ⟨T1, h1, h2⟩ := h
    have o := ho.2.1 n (by omega) (by omega)
    exact isPut_wf (pq_wf ho c0 c1 hw n T1 (by omega) h1) h2 o.1.1 o.1.2 o.2.1.1 o.2.1.2 o.2.2 c0 c1
theorem pq_u {V2 L2 : Int → Int} (ho : pcOk V L m) (c0 : 0 ≤ c) (c1 : c ≤ 999) (hw : tWF T) (e : ∀ i : Int, 0 ≤ i → i < m → V i = V2 i ∧ L i = L2 i) : ∀ (n : Nat) (A B : TB), (n : Int) ≤ m → isPq T V L c n A → isPq T V2 L2 c n B → A = B
  | 0, A, B, _, h, h2 => by rw [show A = T from h, show B = T from h2]
  | n + 1, A, B, hn, ⟨A1, hA, pA1⟩, ⟨B1, hB, pB1⟩ => by
    have e1 := pq_u ho c0 c1 hw e n A1 B1 (by omega) hA hB
    subst e1
    obtain ⟨ev, el⟩ := e n (by omega) (by omega)
    rw [← ev, ← el] at pB1
    exact isPut_u (pq_wf ho c0 c1 hw n A1 (by omega) hA) pA1 pB1
def mis (T : TB) (V L : Int → Int) (i : Int) : Prop := ∀ p : Int, ¬ isAt T (V i) (L i) p
def oth (T : TB) (V L : Int → Int) (c : Int) (i : Int) : Prop := ∃ p : Int, isAt T (V i) (L i) p ∧ ¬ tK T (tH T p) = c
/-- i pieces are put -/
def RmI (T : TB) (V L : Int → Int) (c m : Int) (T1 : TB) (i : Int) : Prop := isPq T V L c i.toNat T1 ∧ tN T1 + (cq (mis T V L) m.toNat - cq (mis T V L) i.toNat) ≤ 60 ∧ ∀ j : Int, i ≤ j → j < m → ((∃ p : Int, isAt T1 (V j) (L j) p) ↔ ∃ p : Int, isAt T (V j) (L j) p)
theorem RmI_0 (h : tN T + cq (mis T V L) m.toNat ≤ 60) : RmI T V L c m T 0 := ⟨rfl, by
  have e : cq (mis T V L) (0 : Int).toNat = 0 := rfl
  rw [e]; omega, fun _ _ _ => Iff.rfl⟩
theorem RmI_room {i : Int} (h : RmI T V L c m T1 i) (i0 : 0 ≤ i) (i1 : i < m) : (∀ p : Int, ¬ isAt T1 (V i) (L i) p) → tN T1 < 60 := by
  intro hn
  have hm : mis T V L i := fun p hp => (((h.2.2 i (Int.le_refl _) i1).mpr ⟨p, hp⟩).elim (fun q hq => hn q hq))
  have h1 := cq_y i0 hm
  have h2 := cq_le (P := mis T V L) (show 0 ≤ i + 1 by omega) (show i + 1 ≤ m by omega)
  have := h.2.1
  omega
theorem pc_lt (ho : pcOk V L m) {i j : Int} (i0 : 0 ≤ i) (ij : i < j) (j1 : j < m) : V i < V j := by
  refine loop_dn (i + 1) (P := fun j => j < m → V i < V j) (fun j hj ih j1 => ?_) j (by omega) j1
  by_cases e : j = i + 1
  · rw [e]; exact ho.2.2 i i0 (by omega)
  · have h1 := ih (j - 1) (by omega) (by omega) (by omega)
    have h2 := ho.2.2 (j - 1) (by omega) (by omega)
    rw [show j - 1 + 1 = j by omega] at h2
    omega
theorem RmI_s {i : Int} (ho : pcOk V L m) (h : RmI T V L c m T1 i) (i0 : 0 ≤ i) (i1 : i < m) (hp : isPut T1 (V i) (L i) c T2) : RmI T V L c m T2 (i + 1) := by
  obtain ⟨h1, h2, h3⟩ := h
  obtain ⟨p1, p2, p3⟩ := put_at hp
  refine ⟨?_, ?_, fun j j0 j1 => ?_⟩
  · rw [show (i + 1).toNat = i.toNat + 1 by omega]
    exact ⟨T1, h1, by rw [show ((i.toNat : Nat) : Int) = i by omega]; exact hp⟩
  · by_cases q : mis T V L i
    · rw [cq_y i0 q, p2 (fun p hp => ((h3 i (Int.le_refl _) i1).mp ⟨p, hp⟩).elim (fun k hk => q k hk))]
      omega
    · rw [cq_n i0 q, p1 ((h3 i (Int.le_refl _) i1).mpr (Classical.byContradiction fun n => q (fun p hp => n ⟨p, hp⟩)))]
      exact h2
  · have lt := pc_lt ho i0 (show i < j by omega) j1
    rw [p3 (V j) (L j) (fun e => absurd e.1 (by omega))]
    exact h3 j (by omega) j1
def spRgR (T : TB) (f t u w x : Int) : Prop := (¬ (uns f ≤ uns t ∧ isWy u w) ∧ x = -1) ∨ ((uns f ≤ uns t ∧ isWy u w) ∧ ∃ (V L : Int → Int) (m : Int), isPcs V L (uns f) (uns t + 1) m ∧ ((cq (mis T V L) m.toNat + cq (oth T V L (10 * u + w)) m.toNat = 0 ∧ x = -2) ∨ (¬ cq (mis T V L) m.toNat + cq (oth T V L (10 * u + w)) m.toNat = 0 ∧ 60 < tN T + cq (mis T V L) m.toNat ∧ x = -3)))
def spRgA (T : TB) (f t u w x : Int) (T2 : TB) : Prop := (uns f ≤ uns t ∧ isWy u w) ∧ ∃ (V L : Int → Int) (m : Int), isPcs V L (uns f) (uns t + 1) m ∧ ¬ cq (mis T V L) m.toNat + cq (oth T V L (10 * u + w)) m.toNat = 0 ∧ tN T + cq (mis T V L) m.toNat ≤ 60 ∧ isPq T V L (10 * u + w) m.toNat T2 ∧ x = m
theorem aRS_range {f t u w : Int} (hw : Wf T a P kp S) (hC : Cls M s T a P kp S tt g z) (kk : ∀ (N : xM) (x : Int), spRgR T f t u w x → Cls N s T a P kp S tt g z → frC M N s → Q (xI x) N) (ka : ∀ (N : xM) (x : Int) (T2 : TB), spRgA T f t u w x T2 → tWF T2 → (∀ t2 : Int, 0 ≤ t2 → isTd T2 T t2 → Cls N s T2 (pA a) (pP a P T) kp S t2 g z) → frC M N s → Q (xI x) N) : Ru (d + 100) kRS_range 0 [xO 8 s, xI f, xI t, xI u, xI w, xU, xU, xU, xU, xU] [] M Q := by
  have uf := uns_in f
  have ut := uns_in t
  have hn := hw.1.1
  refine vRS_range_0 (qRS_unsigned (vRS_range_4 (qRS_unsigned (vRS_range_8 ⟨fun y => kk M _ (Or.inl ⟨fun q => absurd q.1 (by omega), rfl⟩) hC frC_r, fun y => ?_⟩))))
  refine qRS_isWay (fun hy => vRS_range_18 ⟨fun _ => qRS_keyOf hy (vRS_range_29 (qRS_unsigned (vRS_range_39 (qRS_unsigned (vRS_range_43 ?_))))), fun q => absurd (by decide) q⟩) (fun hy => vRS_range_18 ⟨fun q => absurd rfl q, fun _ => kk M _ (Or.inl ⟨fun q => hy q.2, rfl⟩) hC frC_r⟩)
  have hc := wy_c hy
  have ok : uns f ≤ uns t ∧ isWy u w := ⟨by omega, hy⟩
  refine qPieces_cut uf.1 (by omega) ut.2 (fun N hp hf => vRS_range_46 ?_)
  have hN : Cls N s T a P kp S tt g z := Cls_s hw hC (fun b j h1 h2 h3 h4 h5 => hf b j (by omega) (by omega) (by omega))
  have hF : frC M N s := fun b j h => hf b j (by omega) (by omega) (by omega)
  have ho := pc_ok hp (by omega)
  have mb := ho.1
  obtain ⟨V, hV⟩ : ∃ V : Int → Int, V = N (s + 111 + 1) := ⟨_, rfl⟩
  obtain ⟨L, hL⟩ : ∃ L : Int → Int, L = N (s + 111 + 2) := ⟨_, rfl⟩
  obtain ⟨m, hm⟩ : ∃ m : Int, m = N (s + 111) 0 := ⟨_, rfl⟩
  obtain ⟨c, hcc⟩ : ∃ c : Int, c = 10 * u + w := ⟨_, rfl⟩
  rw [← hV, ← hL, ← hm] at hp ho
  rw [← hm] at mb
  rw [← hcc] at hc ⊢
  have bM : ∀ i : Int, 0 ≤ i → i ≤ m → 0 ≤ cq (mis T V L) i.toNat ∧ cq (mis T V L) i.toNat ≤ i ∧ 0 ≤ cq (oth T V L c) i.toNat ∧ cq (oth T V L c) i.toNat ≤ i := fun i i0 i1 => by
    have b1 := cq_b (mis T V L) i.toNat
    have b2 := cq_b (oth T V L c) i.toNat
    omega
  -- the rules are put
  have loop2 : ∀ i : Int, i ≤ m → ∀ (N2 : xM) (T1 : TB) (w9 : xV) (x6 x7 : Int), 0 ≤ i → RmI T V L c m T1 i → tWF T1 → ActC N2 s T a P kp S g z → CT N2 (s + 3) T1 → (∀ b j : Int, s + 111 ≤ b → b ≤ s + 113 → N2 b j = N b j) → frC M N2 s → ¬ cq (mis T V L) m.toNat + cq (oth T V L c) m.toNat = 0 → tN T + cq (mis T V L) m.toNat ≤ 60 → Ru (d + 100) kRS_range 182 [xO 8 s, xI f, xI t, xI u, xI w, xI c, xI x6, xI x7, xI i, w9] [] N2 Q := by
    refine loop_up m (fun i hi ih N2 T1 w9 x6 x7 i0 hI hw1 hA hT hpc hfr h1 h2 => ?_)
    refine vRS_range_182 ?_
    rw [hpc (s + 111) 0 (by omega) (by omega), hpc (s + 111 + 1) i (by omega) (by omega), hpc (s + 111 + 2) i (by omega) (by omega), ← hV, ← hL, ← hm]
    refine ⟨fun y => ?_, fun y => ⟨by omega, by omega, ?_⟩⟩
    · have ei : i = m := by omega
      have hI' := hI.1
      rw [ei] at hI'
      exact ka N2 _ T1 ⟨ok, V, L, m, hp, by rw [← hcc]; exact h1, h2, by rw [← hcc]; exact hI', rfl⟩ hw1 (fun t2 t0 ht => ActC_done hw hA hT t0 ht) hfr
    · have o := ho.2.1 i i0 (by omega)
      refine qTable_put hw1 hT o.1.1 o.1.2 o.2.1.1 o.2.1.2 o.2.2 hc.1 hc.2 (RmI_room hI i0 (by omega)) (fun T3 N3 p hput hpa hc3 hf3 => vRS_range_223 ?_)
      rw [z32_id (x := i + 1) (by omega) (by omega)]
      exact ih (i + 1) (by omega) (by omega) N3 T3 _ _ _ (by omega) (RmI_s ho hI i0 (by omega) hput) (isPut_wf hw1 hput o.1.1 o.1.2 o.2.1.1 o.2.1.2 o.2.2 hc.1 hc.2) (ActC_fr hw hA (fun b j q1 q2 => hf3 b j (by omega))) hc3 (fun b j b0 b1 => by rw [hf3 b j (by omega)]; exact hpc b j b0 b1) (fun b j h => by rw [hf3 b j (by omega)]; exact hfr b j h) h1 h2
  -- counting
  have loop1 : ∀ i : Int, i ≤ m → ∀ w9 : xV, 0 ≤ i → Ru (d + 100) kRS_range 55 [xO 8 s, xI f, xI t, xI u, xI w, xI c, xI (cq (oth T V L c) i.toNat), xI (cq (mis T V L) i.toNat), xI i, w9] [] N Q := by
    refine loop_up m (fun i hi ih w9 i0 => ?_)
    have b := bM i i0 hi
    refine vRS_range_55 ?_
    rw [← hV, ← hL, ← hm, hN.1.1, z32_id (x := cq (mis T V L) i.toNat + cq (oth T V L c) i.toNat) (by omega) (by omega), z32_id (x := tN T + cq (mis T V L) i.toNat) (by omega) (by omega)]
    refine ⟨fun y => ?_, fun y => ⟨by omega, by omega, ?_⟩⟩
    · have ei : i = m := by omega
      rw [ei]
      refine ⟨fun y2 => ⟨fun y3 => ?_, fun y3 => kk N _ (Or.inr ⟨ok, V, L, m, hp, Or.inr ⟨by rw [← hcc]; exact y2, by omega, rfl⟩⟩) hN hF⟩, fun y2 => kk N _ (Or.inr ⟨ok, V, L, m, hp, Or.inl ⟨by rw [← hcc]; exact Classical.not_not.mp y2, rfl⟩⟩) hN hF⟩
      refine qRS_beginAct hw hN (fun N2 hA hT hf2 => vRS_range_179 ?_)
      exact loop2 0 (by omega) N2 T _ _ _ (Int.le_refl _) (RmI_0 y3) hw.1 hA hT (fun b j b0 b1 => hf2 b j (by omega) (by omega) (by omega)) (fun b j h => by rw [hf2 b j (by omega) (by omega) (by omega)]; exact hF b j h) y2 y3
    · refine qTable_find hN.1 hw.1 (fun p hpa => vRS_range_94 ⟨fun _ => ⟨fun q => absurd hpa.1 (by omega), fun _ => ?_⟩, fun q => absurd hpa.1 q⟩) (fun hno => vRS_range_94 ⟨fun q => absurd q (by decide), fun _ => ⟨fun _ => ?_, fun q => absurd (by decide) q⟩⟩)
      · have nm : ¬ mis T V L i := fun h => h p hpa
        refine qTable_keyOfRule hN.1 hw.1 hpa.1 hpa.2.1 (vRS_range_127 ?_)
        rw [Int.add_zero, Int.add_zero, z32_id (x := cq (mis T V L) i.toNat) (by omega) (by omega), z32_id (x := cq (oth T V L c) i.toNat) (by omega) (by omega), z32_id (x := cq (oth T V L c) i.toNat + 1) (by omega) (by omega), z32_id (x := i + 1) (by omega) (by omega)]
        refine ⟨fun q => ?_, fun q => ?_⟩
        · have no : ¬ oth T V L c i := fun ⟨k, hk, hk2⟩ => hk2 (by rw [isAt_u hw.1 hk hpa]; exact q)
          have := ih (i + 1) (by omega) (by omega) (xI p) (by omega)
          rw [cq_n i0 nm, cq_n i0 no] at this
          exact this
        · have yo : oth T V L c i := ⟨p, hpa, q⟩
          have := ih (i + 1) (by omega) (by omega) (xI p) (by omega)
          rw [cq_n i0 nm, cq_y i0 yo] at this
          exact this
      · have ym : mis T V L i := hno
        have no : ¬ oth T V L c i := fun ⟨k, hk, _⟩ => hno k hk
        rw [Int.add_zero, z32_id (x := cq (oth T V L c) i.toNat) (by omega) (by omega), z32_id (x := cq (mis T V L) i.toNat + 1) (by omega) (by omega), z32_id (x := i + 1) (by omega) (by omega)]
        have := ih (i + 1) (by omega) (by omega) (xI (-1)) (by omega)
        rw [cq_y i0 ym, cq_n i0 no] at this
        exact this
  exact loop1 0 (by omega) _ (Int.le_refl _)
end Range

/-! ACTS: range, in the reference. -/
section Range2
variable {d : Nat} {M N : xM} {Q : xQ} {s r : Int} {T T1 T2 : TB} {a a2 : Int} {P : Int → TB} {kp : Int} {S : Int → TB} {tt : Int} {g g2 : Int → Int} {z z2 : Int} {V L V2 L2 : Int → Int} {c m : Int}
theorem mis_cg (e : ∀ i : Int, 0 ≤ i → i < m → V i = V2 i ∧ L i = L2 i) : cq (mis T V L) m.toNat = cq (mis T V2 L2) m.toNat ∧ cq (oth T V L c) m.toNat = cq (oth T V2 L2 c) m.toNat := by
  refine ⟨cq_cg _ (fun k k0 k1 => ?_), cq_cg _ (fun k k0 k1 => ?_)⟩
  · obtain ⟨e1, e2⟩ := e k k0 (by omega)
    unfold mis
    rw [e1, e2]
  · obtain ⟨e1, e2⟩ := e k k0 (by omega)
    unfold oth
    rw [e1, e2]
theorem cq_i {P : Int → Prop} {i : Int} (i0 : 0 ≤ i) : 0 ≤ cq P i.toNat ∧ cq P i.toNat ≤ i := by
  have b := cq_b P i.toNat
  omega
theorem qMo_rg38 {f t u w : Int} (hw : tWF T) (hc : RT M (r + 1) 0 T) (ho : pcOk (M (r + 19)) (M (r + 20)) (M r 29)) (k2 : cq (mis T (M (r + 19)) (M (r + 20))) (M r 29).toNat + cq (oth T (M (r + 19)) (M (r + 20)) c) (M r 29).toNat = 0 → Q (xI (-2)) M) (k3 : ¬ cq (mis T (M (r + 19)) (M (r + 20))) (M r 29).toNat + cq (oth T (M (r + 19)) (M (r + 20)) c) (M r 29).toNat = 0 → 60 < tN T + cq (mis T (M (r + 19)) (M (r + 20))) (M r 29).toNat → Q (xI (-3)) M) (kA : ¬ cq (mis T (M (r + 19)) (M (r + 20))) (M r 29).toNat + cq (oth T (M (r + 19)) (M (r + 20)) c) (M r 29).toNat = 0 → tN T + cq (mis T (M (r + 19)) (M (r + 20))) (M r 29).toNat ≤ 60 → ∀ x6 x7 x8 : Int, Ru (d + 99) kMo_keepsAct 0 [xO 9 r, xU] [] M (fun _ N => Ru (d + 100) kMo_range 149 [xO 9 r, xI f, xI t, xI u, xI w, xI c, xI x6, xI x7, xI x8, xU] [] N Q)) : Ru (d + 100) kMo_range 38 [xO 9 r, xI f, xI t, xI u, xI w, xI c, xI 1, xI 0, xI 0, xU] [] M Q := by
  have hn := hw.1
  have mb := ho.1
  obtain ⟨V, hV⟩ : ∃ V : Int → Int, V = M (r + 19) := ⟨_, rfl⟩
  obtain ⟨L, hL⟩ : ∃ L : Int → Int, L = M (r + 20) := ⟨_, rfl⟩
  obtain ⟨m, hm⟩ : ∃ m : Int, m = M r 29 := ⟨_, rfl⟩
  rw [← hV, ← hL, ← hm] at ho k2 k3 kA
  rw [← hm] at mb
  have main : ∀ i : Int, i ≤ m → ∀ h : Int, 0 ≤ i → ((h = 1 ∧ ∀ j : Int, 0 ≤ j → j < i → ¬ mis T V L j ∧ ¬ oth T V L c j) ∨ (h = 0 ∧ ∃ j : Int, (0 ≤ j ∧ j < i) ∧ (mis T V L j ∨ oth T V L c j))) → Ru (d + 100) kMo_range 38 [xO 9 r, xI f, xI t, xI u, xI w, xI c, xI h, xI (cq (mis T V L) i.toNat), xI i, xU] [] M Q := by
    refine loop_up m (fun i hi ih h i0 hI => ?_)
    have b := cq_i (P := mis T V L) i0
    refine vMo_range_38 ?_
    rw [← hV, ← hL, ← hm, (RN_of.mp hc).1, z32_id (x := tN T + cq (mis T V L) i.toNat) (by omega) (by omega)]
    -- the piece is looked for
    have fnd : ∀ h2 : Int, ((h2 = 1 ∧ ∀ j : Int, 0 ≤ j → j < i + 1 → ¬ mis T V L j ∧ ¬ oth T V L c j) ∨ (h2 = 0 ∧ ∃ j : Int, (0 ≤ j ∧ j < i + 1) ∧ (mis T V L j ∨ oth T V L c j))) → i < m → Ru (d + 99) kMo_find 0 [xO 9 r, xL (V i), xU, xI (L i), xU] [] M (fun v N => Ru (d + 100) kMo_range 102 [xO 9 r, xI f, xI t, xI u, xI w, xI c, xI h2, xI (cq (mis T V L) i.toNat), xI i, xU] [v, xI (cq (mis T V L) i.toNat)] N Q) := by
      intro h2 hI2 im
      refine qMo_find hc hw (fun p hp => vMo_range_102 ⟨fun _ => ?_, fun q => ?_⟩) (fun hno => vMo_range_102 ⟨fun q => absurd rfl q, fun _ => ?_⟩)
      · rw [Int.add_zero, z32_id (x := cq (mis T V L) i.toNat) (by omega) (by omega), z32_id (x := i + 1) (by omega) (by omega)]
        have nm : ¬ mis T V L i := fun h => h p hp
        have := ih (i + 1) (by omega) (by omega) h2 (by omega) hI2
        rw [cq_n i0 nm] at this
        exact this
      · have := hp.1; omega
      · rw [z32_id (x := cq (mis T V L) i.toNat + 1) (by omega) (by omega), z32_id (x := i + 1) (by omega) (by omega)]
        have := ih (i + 1) (by omega) (by omega) h2 (by omega) hI2
        rw [cq_y i0 hno] at this
        exact this
    refine ⟨fun y => ?_, fun y => ⟨fun y2 => vMo_range_79 ⟨by omega, by omega, ?_⟩, fun y2 => ⟨by omega, by omega, ?_⟩⟩⟩
    · have ei : i = m := by omega
      rw [ei]
      rw [ei] at hI
      refine ⟨fun y2 => ?_, fun y2 => k2 ?_⟩
      · have nz : ¬ cq (mis T V L) m.toNat + cq (oth T V L c) m.toNat = 0 := by
          rcases hI with ⟨h1, -⟩ | ⟨-, j, j0, hj⟩
          · omega
          · have b1 := cq_b (mis T V L) m.toNat
            have b2 := cq_b (oth T V L c) m.toNat
            intro e
            rcases hj with hj | hj
            · exact cq_z m.toNat (by omega) j j0.1 (by omega) hj
            · exact cq_z m.toNat (by omega) j j0.1 (by omega) hj
        exact ⟨by decide, fun y3 => kA nz y3 _ _ _, fun y3 => k3 nz (by omega)⟩
      · rcases hI with ⟨-, hj⟩ | ⟨h0, -⟩
        · have z1 := cq_no (P := mis T V L) (a := 0) (b := m) (by decide) (by omega) (fun j j0 j1 => (hj j j0 j1).1)
          have z2 := cq_no (P := oth T V L c) (a := 0) (b := m) (by decide) (by omega) (fun j j0 j1 => (hj j j0 j1).2)
          rw [z1, z2]
          rfl
        · exact absurd h0 y2
    · rw [← hV, ← hL]
      refine fnd 0 (Or.inr ⟨rfl, ?_⟩) (by omega)
      rcases hI with ⟨h1, -⟩ | ⟨-, j, j0, hj⟩
      · omega
      · exact ⟨j, ⟨j0.1, by omega⟩, hj⟩
    · have hI1 : ∀ j : Int, 0 ≤ j → j < i → ¬ mis T V L j ∧ ¬ oth T V L c j := by
        rcases hI with ⟨-, hj⟩ | ⟨h0, -⟩
        · exact hj
        · exact absurd h0 y2
      have f1 : ∀ p : Int, isAt T (V i) (L i) p → tK T (tH T p) = c → ∀ j : Int, 0 ≤ j → j < i + 1 → ¬ mis T V L j ∧ ¬ oth T V L c j := fun p hp hk j j0 j1 => by
        by_cases e : j = i
        · rw [e]
          exact ⟨fun h => h p hp, fun ⟨q, hq, hq2⟩ => hq2 (by rw [isAt_u hw hq hp]; exact hk)⟩
        · exact hI1 j j0 (by omega)
      have f0 : (∀ p : Int, isAt T (V i) (L i) p → ¬ tK T (tH T p) = c) → mis T V L i ∨ oth T V L c i := fun hno => by
        by_cases e : ∃ p : Int, isAt T (V i) (L i) p
        · obtain ⟨p, hp⟩ := e
          exact Or.inr ⟨p, hp, hno p hp⟩
        · exact Or.inl (fun p hp => e ⟨p, hp⟩)
      refine qMo_hasIt hw hc (fun p hp hk => vMo_range_72 ⟨fun q => absurd q (by decide), fun _ => ⟨by omega, by omega, ?_⟩⟩) (fun hno => vMo_range_72 ⟨fun _ => vMo_range_79 ⟨by omega, by omega, ?_⟩, fun q => absurd rfl q⟩)
      · rw [← hV, ← hL]
        exact fnd 1 (Or.inl ⟨rfl, f1 p hp hk⟩) (by omega)
      · rw [← hV, ← hL]
        exact fnd 0 (Or.inr ⟨rfl, i, ⟨i0, by omega⟩, f0 hno⟩) (by omega)
  exact main 0 (by omega) 1 (Int.le_refl _) (Or.inl ⟨rfl, fun j j0 j1 => by omega⟩)
theorem Ref_cov {N : xM} (hw : tWF T) (hR : Ref M r T a P kp S tt g z) (hf : ∀ b j : Int, ¬ (b = r ∧ j = 29) → ¬ b = r + 19 → ¬ b = r + 20 → N b j = M b j) : Ref N r T a P kp S tt g z ∧ frR M N r := ⟨Ref_fr hw hR (fun b j h => by unfold rOk at h; exact hf b j (by omega) (by omega) (by omega)), fun b j h => hf b j (by omega) (by omega) (by omega)⟩
theorem aMo_rgR {f t u w x : Int} (hw : Wf T a P kp S) (hR : Ref M r T a P kp S tt g z) (h : spRgR T f t u w x) (kk : ∀ N : xM, Ref N r T a P kp S tt g z → frR M N r → Q (xI x) N) : Ru (d + 100) kMo_range 0 [xO 9 r, xI f, xI t, xI u, xI w, xU, xU, xU, xU, xU] [] M Q := by
  have hq := kk M hR frR_r
  have ut := uns_in t
  rcases h with ⟨c, hx⟩ | ⟨⟨ok, hy⟩, V, L, m, hp, hx⟩
  · refine vMo_range_0 (qMo_isWay (fun hy => vMo_range_6 ⟨fun q => absurd q (by decide), fun _ => qMo_covers (fun y => vMo_range_15 ⟨fun q => absurd rfl q, fun _ => ?_⟩) (fun y => absurd ⟨y, hy⟩ c)⟩) (fun hy => vMo_range_6 ⟨fun _ => qe hq hx.symm, fun q => absurd rfl q⟩))
    exact qe (kk _ (Ref_fr hw.1 hR (fun b j h => by unfold rOk at h; exact up_un (by omega))) (fun b j h => up_un (by omega))) hx.symm
  · refine vMo_range_0 (qMo_isWay (fun _ => vMo_range_6 ⟨fun q => absurd q (by decide), fun _ => qMo_covers (fun y => by omega) (fun _ N hp2 hf => vMo_range_15 ⟨fun _ => ?_, fun q => absurd (by decide) q⟩)⟩) (fun n => absurd hy n))
    obtain ⟨hR2, hfr⟩ := Ref_cov hw.1 hR hf
    have hq2 := kk N hR2 hfr
    obtain ⟨em, e⟩ := isPcs_u hp hp2
    obtain ⟨e1, e2⟩ := mis_cg (T := T) (c := 10 * u + w) e
    rw [em] at e1 e2
    unfold isWy at hy
    rw [z32_id (x := 10 * u) (by omega) (by omega), z32_id (x := 10 * u + w) (by omega) (by omega)]
    rw [em, e1, e2] at hx
    refine qMo_rg38 hw.1 hR2.1 (pc_ok hp2 (by omega)) (fun y => ?_) (fun y y2 => ?_) (fun y y2 => ?_)
    · rcases hx with ⟨_, hx⟩ | ⟨c, _⟩
      · exact qe hq2 hx.symm
      · exact absurd y c
    · rcases hx with ⟨c, _⟩ | ⟨_, _, hx⟩
      · exact absurd c y
      · exact qe hq2 hx.symm
    · rcases hx with ⟨c, _⟩ | ⟨_, c, _⟩
      · exact absurd c y
      · exact absurd c (by omega)
theorem aMo_rgA {f t u w x : Int} (hw : Wf T a P kp S) (hw2 : tWF T2) (hR : Ref M r T a P kp S tt g z) (h : spRgA T f t u w x T2) (kk : ∀ (N : xM) (t2 : Int), 0 ≤ t2 → isTd T2 T t2 → Ref N r T2 (pA a) (pP a P T) kp S t2 g z → frR M N r → Q (xI x) N) : Ru (d + 100) kMo_range 0 [xO 9 r, xI f, xI t, xI u, xI w, xU, xU, xU, xU, xU] [] M Q := by
  have ut := uns_in t
  obtain ⟨⟨ok, hy⟩, V, L, m, hp, h1, h2, hpq, hx⟩ := h
  have hc := wy_c hy
  refine vMo_range_0 (qMo_isWay (fun _ => vMo_range_6 ⟨fun q => absurd q (by decide), fun _ => qMo_covers (fun y => by omega) (fun _ N hp2 hf => vMo_range_15 ⟨fun _ => ?_, fun q => absurd (by decide) q⟩)⟩) (fun n => absurd hy n))
  obtain ⟨hR2, hfr⟩ := Ref_cov hw.1 hR hf
  obtain ⟨em, e⟩ := isPcs_u hp hp2
  obtain ⟨e1, e2⟩ := mis_cg (T := T) (c := 10 * u + w) e
  rw [em] at e1 e2
  unfold isWy at hy
  rw [z32_id (x := 10 * u) (by omega) (by omega), z32_id (x := 10 * u + w) (by omega) (by omega)]
  obtain ⟨c, hcc⟩ : ∃ c : Int, c = 10 * u + w := ⟨_, rfl⟩
  rw [← hcc] at hc h1 hpq e2 ⊢
  rw [em, e1, e2] at h1
  rw [em, e1] at h2
  have ho := pc_ok hp (by omega)
  have ho2 := pc_ok hp2 (by omega)
  have mb := ho2.1
  have rb := RL_b hw.1 hR2.2.1
  have hnum := RL_num hw.1 hR2.2.1
  refine qMo_rg38 hw.1 hR2.1 ho2 (fun y => absurd y h1) (fun _ y => by omega) (fun _ _ x6 x7 x8 => ?_)
  refine qMo_keepsAct hw hR2.1 hR2.2.2.2.1.1 hR2.2.2.2.1.2 (fun N1 m2 m3 hf1 => vMo_range_149 ?_)
  have hT : RT N1 (r + 1) 0 T := RT_fr hR2.1 (fun j => hf1 _ _ (by omega) (by omega))
  have loop2 : ∀ i : Int, i ≤ N r 29 → ∀ (N2 : xM) (T1 : TB) (w9 : xV), 0 ≤ i → RmI T (N (r + 19)) (N (r + 20)) c (N r 29) T1 i → tWF T1 → RN N2 (r + 1) T1 (tK T1) → (∀ b j : Int, ¬ b = r + 1 → N2 b j = N1 b j) → Ru (d + 100) kMo_range 152 [xO 9 r, xI f, xI t, xI u, xI w, xI c, xI x6, xI x7, xI i, w9] [] N2 Q := by
    refine loop_up (N r 29) (fun i hi ih N2 T1 w9 i0 hI hw1 hTN hf2 => ?_)
    refine vMo_range_152 ?_
    rw [hf2 r 29 (by omega), hf2 (r + 19) i (by omega), hf2 (r + 20) i (by omega), hf1 r 29 (by omega) (by omega), hf1 (r + 19) i (by omega) (by omega), hf1 (r + 20) i (by omega) (by omega)]
    refine ⟨fun y => ?_, fun y => ⟨by omega, by omega, ?_⟩⟩
    · have ei : i = N r 29 := by omega
      have hI' := hI.1
      rw [ei, ← em] at hI'
      have eT : T2 = T1 := pq_u ho hc.1 hc.2 hw.1 e m.toNat T2 T1 (by omega) hpq hI'
      subst eT
      have hA := ActR_of hR2 m2 m3 hf1 (RN_of.mpr hTN) hf2
      refine qMo_isDone hw hw2 hA hnum (by omega) (fun N4 t2 t0 ht hR4 hf4 => vMo_range_193 (qe (kk N4 t2 t0 ht hR4 (fun b j h => by rw [hf4 b j (chD_fr h), hf2 b j (by omega), hf1 b j (by omega) (by omega)]; exact hfr b j h)) ?_))
      rw [hx, em, hf4 _ _ (by unfold chD; omega), hf2 _ _ (by omega), hf1 _ _ (by omega) (by omega)]
    · have o := ho2.2.1 i i0 (by omega)
      refine qMo_puts hw1 hTN o.1.1 o.1.2 o.2.1.1 o.2.1.2 o.2.2 hc.1 hc.2 (RmI_room hI i0 (by omega)) (fun T3 N3 p hput hpa hc3 hf3 => vMo_range_181 ?_)
      rw [z32_id (x := i + 1) (by omega) (by omega)]
      exact ih (i + 1) (by omega) (by omega) N3 T3 _ (by omega) (RmI_s ho2 hI i0 (by omega) hput) (isPut_wf hw1 hput o.1.1 o.1.2 o.2.1.1 o.2.1.2 o.2.2 hc.1 hc.2) hc3 (fun b j q => by rw [hf3 b j q]; exact hf2 b j q)
  exact loop2 0 (by omega) N1 T _ (Int.le_refl _) (RmI_0 h2) hw.1 (RN_of.mp hT) (fun _ _ _ => rfl)
theorem bo_range (f t u w : Int) : Bo kRS_range [xO 8 0, xI f, xI t, xI u, xI w, xU, xU, xU, xU, xU] kMo_range [xO 9 198, xI f, xI t, xI u, xI w, xU, xU, xU, xU, xU] xI :=
  bo_act (fun σ x => spRgR σ.1 f t u w x) (fun σ x T2 => spRgA σ.1 f t u w x T2) (fun _ _ _ _ _ _ _ _ _ _ _ hw hC kk ka => aRS_range hw hC kk ka) (fun _ _ _ _ _ _ _ _ _ _ _ _ hw hR h kk => aMo_rgR hw hR h kk) (fun _ _ _ _ _ _ _ _ _ _ _ _ _ hw hw2 hR h kk => aMo_rgA hw hw2 hR h kk)
end Range2

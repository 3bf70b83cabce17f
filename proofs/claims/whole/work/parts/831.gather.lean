/-! THE FEWEST RULES ARE TAKEN, in both. -/
def lE (l : List (Int × Int × Int)) (k : Int) : Int × Int × Int := l.getD k.toNat (0, 0, 0)
theorem arrL_at {V L H : Int → Int} : ∀ (l : List (Int × Int × Int)) (s : Int), arrL V L H s l → ∀ k : Int, 0 ≤ k → k < l.length → V (s + k) = (lE l k).1 ∧ L (s + k) = (lE l k).2.1 ∧ H (s + k) = (lE l k).2.2
  | [], s, _, k, k0, k1 => absurd k1 (by show ¬ k < 0; omega)
  | e :: l, s, h, k, k0, k1 => by
    by_cases e0 : k = 0
    · rw [e0, Int.add_zero]
      exact h.1
    · rw [List.length_cons] at k1
      have ih := arrL_at l (s + 1) h.2 (k - 1) (by omega) (by omega)
      rw [show s + 1 + (k - 1) = s + k by omega] at ih
      have e1 : lE (e :: l) k = lE l (k - 1) := by
        unfold lE
        rw [show k.toNat = (k - 1).toNat + 1 by omega]
        rfl
      rw [e1]
      exact ih
theorem lE_get {l : List (Int × Int × Int)} {k : Int} (k0 : 0 ≤ k) (k1 : k < l.length) : ∃ h : k.toNat < l.length, lE l k = l[k.toNat] := by
  have h : k.toNat < l.length := by omega
  refine ⟨h, ?_⟩
  unfold lE
  rw [List.getD_eq_getElem?_getD, List.getElem?_eq_getElem h]
  rfl
theorem lE_mem {l : List (Int × Int × Int)} {k : Int} (k0 : 0 ≤ k) (k1 : k < l.length) : lE l k ∈ l := by
  obtain ⟨h, e⟩ := lE_get k0 k1
  rw [e]
  exact List.getElem_mem h
noncomputable def fw (T : TB) : List (Int × Int × Int) := fL T 32 0 (-1)
noncomputable def gT (T : TB) : TB := ((fw T).length, fun k => (lE (fw T) k).1, fun k => (lE (fw T) k).2.1, fun k => (lE (fw T) k).2.2, tY T, tZ T, tS T)
def fwN (T : TB) : Prop := ∃ k : Int, (0 ≤ k ∧ k < (fw T).length) ∧ (lE (fw T) k).2.2 = -1
theorem fw_at {T : TB} (hw : tWF T) {k : Int} (k0 : 0 ≤ k) (k1 : k < (fw T).length) : (0 ≤ (lE (fw T) k).1 ∧ (lE (fw T) k).1 < 4294967296) ∧ (0 ≤ (lE (fw T) k).2.1 ∧ (lE (fw T) k).2.1 ≤ 32) ∧ (lE (fw T) k).1 % wd (lE (fw T) k).2.1 = 0 ∧ ∃ a : Int, hp T a = (lE (fw T) k).2.2 := by
  have h := (fL_prop hw 32 0 (-1) (by decide) (Int.zero_emod _)).1 _ (lE_mem k0 k1)
  have e32 : (2 : Int) ^ 32 = 4294967296 := by decide
  rw [e32] at h
  refine ⟨?_, ?_, h.2.2.1, h.2.2.2⟩
  · have := h.1
    exact ⟨this.1, by have h9 := this.2; rw [Int.zero_add] at h9; exact h9⟩
  · have := h.2.1
    exact ⟨by have h9 := this.1; have e : (32 : Int) - ((32 : Nat) : Int) = 0 := by decide
              rw [e] at h9; exact h9, this.2⟩
theorem fw_lt {T : TB} (hw : tWF T) {i j : Int} (i0 : 0 ≤ i) (ij : i < j) (j1 : j < (fw T).length) : (lE (fw T) i).1 < (lE (fw T) j).1 ∨ ((lE (fw T) i).1 = (lE (fw T) j).1 ∧ (lE (fw T) i).2.1 < (lE (fw T) j).2.1) := by
  have h := (fL_prop hw 32 0 (-1) (by decide) (Int.zero_emod _)).2
  obtain ⟨hi, ei⟩ := lE_get (l := fw T) i0 (by omega)
  obtain ⟨hj, ej⟩ := lE_get (l := fw T) (show 0 ≤ j by omega) j1
  rw [ei, ej]
  exact List.pairwise_iff_getElem.mp h i.toNat j.toNat hi hj (by omega)
theorem fw_hp {T : TB} (hw : tWF T) (hn : ¬ fwN T) {k : Int} (k0 : 0 ≤ k) (k1 : k < (fw T).length) : (0 ≤ (lE (fw T) k).2.2 ∧ (lE (fw T) k).2.2 < 60) ∧ 0 < tU T (lE (fw T) k).2.2 := by
  obtain ⟨a, ha⟩ := (fw_at hw k0 k1).2.2.2
  have h1 := hp_in hw a
  rw [ha] at h1
  have h2 : ¬ (lE (fw T) k).2.2 = -1 := fun z => hn ⟨k, ⟨k0, k1⟩, z⟩
  exact ⟨⟨by omega, h1.2.1⟩, h1.2.2 (by omega)⟩
theorem gT_u {T : TB} (hw : tWF T) (hn : ¬ fwN T) {h : Int} (hu : 0 < tU (gT T) h) : 0 < tU T h := by
  obtain ⟨k, k0, k1, k2⟩ := cnt_ex hu
  have k1' : k < (fw T).length := by
    have : (tN (gT T)).toNat = (fw T).length := by show (((fw T).length : Nat) : Int).toNat = _; omega
    rw [this] at k1
    exact k1
  have k2' : (lE (fw T) k).2.2 = h := k2
  rw [← k2']
  exact (fw_hp hw hn k0 k1').2
theorem gT_wf {T : TB} (hw : tWF T) (hn : ¬ fwN T) : tWF (gT T) := by
  have hl := few_len hw
  refine ⟨⟨Int.natCast_nonneg _, ?_⟩, fun k k0 k1 => ?_, fun i j i0 ij j1 => fw_lt hw i0 ij j1, fun h h0 h1 hu => hw.2.2.2.1 h h0 h1 (gT_u hw hn hu), fun h g h0 h1 g0 g1 hu gu e => hw.2.2.2.2.1 h g h0 h1 g0 g1 (gT_u hw hn hu) (gT_u hw hn gu) e, hw.2.2.2.2.2.1, hw.2.2.2.2.2.2.1, hw.2.2.2.2.2.2.2⟩
  · have : ((fw T).length : Int) ≤ tN T := hl
    have := hw.1.2
    show ((fw T).length : Int) ≤ 60
    omega
  · have h1 := fw_at hw k0 k1
    have h2 := fw_hp hw hn k0 k1
    exact ⟨h1.1, h1.2.1, h1.2.2.1, h2.1⟩
theorem cnt_sI {H : Int → Int} {h i : Int} (i0 : 0 ≤ i) : cnt H h (i + 1).toNat = cnt H h i.toNat + if H i = h then 1 else 0 := by
  rw [show (i + 1).toNat = i.toNat + 1 by omega]
  show cnt H h i.toNat + (if H (i.toNat : Int) = h then 1 else 0) = _
  rw [show (i.toNat : Int) = i by omega]
def fwS (T : TB) : Prop := tN T = (fw T).length ∧ ∀ k : Int, 0 ≤ k → k < (fw T).length → tV T k = (lE (fw T) k).1 ∧ tL T k = (lE (fw T) k).2.1 ∧ tH T k = (lE (fw T) k).2.2
section Gather
variable {d : Nat} {M : xM} {Q : xQ} {T : TB} {t p r : Int}
theorem FW_at (hF : FW M p T) {k : Int} (k0 : 0 ≤ k) (k1 : k < (fw T).length) : M (p + 1) k = (lE (fw T) k).1 ∧ M (p + 2) k = (lE (fw T) k).2.1 ∧ M (p + 3) k = (lE (fw T) k).2.2 := by
  have := arrL_at (fw T) 0 hF.2 k k0 k1
  rw [Int.zero_add] at this
  exact this
theorem RFw_at (hF : RFw M r T) {k : Int} (k0 : 0 ≤ k) (k1 : k < (fw T).length) : M (r + 28) k = (lE (fw T) k).1 ∧ M (r + 29) k = (lE (fw T) k).2.1 ∧ M (r + 30) k = (lE (fw T) k).2.2 := by
  have := arrL_at (fw T) 0 hF.2 k k0 k1
  rw [Int.zero_add] at this
  exact this
theorem fw_60 (hw : tWF T) : ((fw T).length : Int) ≤ 60 := by
  have : ((fw T).length : Int) ≤ tN T := few_len hw
  have := hw.1.2
  omega
theorem qFewest_hasNone (hw : tWF T) (hF : FW M p T) (h1 : fwN T → Q (xI 1) M) (h0 : ¬ fwN T → Q (xI 0) M) : Ru d kFewest_hasNone 0 [xO 1 p, xU] [] M Q := by
  have h60 := fw_60 hw
  have e0 : M p 0 = (fw T).length := hF.1
  refine vFewest_hasNone_0 (loop_up ((fw T).length : Int) (P := fun i => 0 ≤ i → (∀ j : Int, 0 ≤ j → j < i → ¬ (lE (fw T) j).2.2 = -1) → Ru d kFewest_hasNone 2 [xO 1 p, xI i] [] M Q) (fun i hi ih i0 hok => ?_) 0 (Int.natCast_nonneg _) (by decide) (fun j j0 j1 => by omega))
  refine vFewest_hasNone_2 ?_
  rw [e0]
  refine ⟨fun y => h0 (fun z => ?_), fun y => ⟨fun y2 => by omega, fun y2 => ⟨by omega, ?_⟩⟩⟩
  · obtain ⟨k, k0, k1⟩ := z
    exact hok k k0.1 (by omega) k1
  · rw [(FW_at hF i0 (by omega)).2.2, z32_id (by omega) (by omega)]
    refine ⟨fun y3 => ih (i + 1) (by omega) (by omega) (by omega) (fun j j0 j1 => ?_), fun y3 => h1 ⟨i, ⟨i0, by omega⟩, Classical.not_not.mp y3⟩⟩
    by_cases e : j = i
    · rw [e]; exact y3
    · exact hok j j0 (by omega)
theorem qTable_hasRulesOf (hw : tWF T) (hc : CT M t T) (hF : FW M p T) (h1 : fwS T → Q (xI 1) M) (h0 : ¬ fwS T → Q (xI 0) M) : Ru d kTable_hasRulesOf 0 [xO 6 t, xO 1 p, xU] [] M Q := by
  have h60 := fw_60 hw
  have e0 : M p 0 = (fw T).length := hF.1
  refine vTable_hasRulesOf_0 ?_
  rw [hc.1, e0]
  refine ⟨fun y => ?_, fun y => h0 (fun z => y z.1)⟩
  refine loop_up ((fw T).length : Int) (P := fun i => 0 ≤ i → (∀ j : Int, 0 ≤ j → j < i → tV T j = (lE (fw T) j).1 ∧ tL T j = (lE (fw T) j).2.1 ∧ tH T j = (lE (fw T) j).2.2) → Ru d kTable_hasRulesOf 15 [xO 6 t, xO 1 p, xI i] [] M Q) (fun i hi ih i0 hok => ?_) 0 (Int.natCast_nonneg _) (by decide) (fun j j0 j1 => by omega)
  refine vTable_hasRulesOf_15 ?_
  rw [hc.1]
  refine ⟨fun y2 => h1 ⟨y, fun j j0 j1 => hok j j0 (by omega)⟩, fun y2 => ⟨fun y3 => by omega, fun y3 => ?_⟩⟩
  obtain ⟨a1, a2, a3⟩ := FW_at hF i0 (show i < (fw T).length by omega)
  obtain ⟨c1, c2, c3⟩ := hc.2.1 i i0 (by omega)
  have c3' := c3 (hw.2.1 i i0 (by omega)).2.2.2.1
  rw [a1, a2, a3, c1, c2, c3', z32_id (by omega) (by omega)]
  refine ⟨by omega, by omega, fun q => h0 (fun z => q (z.2 i i0 (by omega)).1), fun q => ⟨by omega, by omega, fun q2 => h0 (fun z => q2 (z.2 i i0 (by omega)).2.1), fun q2 => ⟨by omega, by omega, fun q3 => ih (i + 1) (by omega) (by omega) (by omega) (fun j j0 j1 => ?_), fun q3 => h0 (fun z => q3 (z.2 i i0 (by omega)).2.2)⟩⟩⟩
  by_cases e : j = i
  · rw [e]; exact ⟨Classical.not_not.mp q, Classical.not_not.mp q2, q3⟩
  · exact hok j j0 (by omega)
theorem qTable_takeRules (hw : tWF T) (hn : ¬ fwN T) (hc : CT M t T) (hF : FW M p T) (hap : t + 6 < p ∨ p + 5 < t) (h : ∀ N : xM, CT N t (gT T) → (∀ b j : Int, b < t ∨ t + 5 < b → N b j = M b j) → Q xU N) : Ru d kTable_takeRules 0 [xO 6 t, xO 1 p, xU, xU] [] M Q := by
  have h60 := fw_60 hw
  have e0 : M p 0 = (fw T).length := hF.1
  refine vTable_takeRules_0 (loop_up 60 (P := fun i => ∀ N : xM, 0 ≤ i → (∀ j : Int, 0 ≤ j → j < i → N (t + 5) j = 0) → (∀ b j : Int, ¬ b = t + 5 → N b j = M b j) → Ru d kTable_takeRules 2 [xO 6 t, xO 1 p, xI i, xU] [] N Q) (fun i hi ih N i0 hu hf => ?_) 0 (by decide) M (by decide) (fun j j0 j1 => by omega) (fun _ _ _ => rfl))
  refine vTable_takeRules_2 ⟨fun y => ?_, fun y => ⟨by omega, ?_⟩⟩
  · rw [hf p 0 (by omega), e0]
    refine loop_up ((fw T).length : Int) (P := fun i => ∀ (N2 : xM) (w3 : xV), 0 ≤ i → N2 t 0 = (fw T).length → (∀ j : Int, 0 ≤ j → j < i → N2 (t + 1) j = (lE (fw T) j).1 ∧ N2 (t + 2) j = (lE (fw T) j).2.1 ∧ N2 (t + 3) j = (lE (fw T) j).2.2) → (∀ g : Int, 0 ≤ g → g < 60 → N2 (t + 5) g = cnt (fun k => (lE (fw T) k).2.2) g i.toNat) → (∀ b j : Int, ¬ (t ≤ b ∧ b ≤ t + 5) ∨ (b = t ∧ ¬ j = 0) ∨ b = t + 4 → N2 b j = M b j) → Ru d kTable_takeRules 31 [xO 6 t, xO 1 p, xI i, w3] [] N2 Q) (fun i2 hi2 ih2 N2 w3 i20 et hR hU hf2 => ?_) 0 (Int.natCast_nonneg _) _ _ (by decide) up_same (fun j j0 j1 => by omega) (fun g g0 g1 => by rw [up_un (by omega)]; exact hu g g0 (by omega)) (fun b j hb => by rw [up_un (by omega)]; exact hf b j (by omega))
    refine vTable_takeRules_31 ?_
    rw [et]
    refine ⟨fun y2 => h N2 ⟨et, fun k k0 k1 => ?_, fun g g0 g1 => ⟨?_, fun gu => ?_⟩, ?_, fun l l0 l1 => ?_⟩ (fun b j hb => hf2 b j (by omega)), fun y2 => ⟨fun y3 => by omega, fun y3 => ?_⟩⟩
    · have k1' : k < (fw T).length := k1
      have := hR k k0 (by omega)
      exact ⟨this.1, this.2.1, fun _ => this.2.2⟩
    · rw [hU g g0 g1]
      show _ = cnt (fun k => (lE (fw T) k).2.2) g (((fw T).length : Nat) : Int).toNat
      rw [show i2 = ((fw T).length : Int) by omega]
    · rw [hf2 _ _ (by omega)]
      exact (hc.2.2.1 g g0 g1).2 (gT_u hw hn gu)
    · rw [hf2 _ _ (by omega)]; exact hc.2.2.2.1
    · rw [hf2 _ _ (by omega)]; exact hc.2.2.2.2 l l0 l1
    · obtain ⟨a1, a2, a3⟩ := FW_at hF i20 (show i2 < (fw T).length by omega)
      have hh := fw_hp hw hn i20 (show i2 < (fw T).length by omega)
      simp (disch := omega) only [up_un]
      rw [hf2 (p + 1) i2 (by omega), hf2 (p + 2) i2 (by omega), hf2 (p + 3) i2 (by omega), a1, a2, a3]
      have hcb := cnt_le (fun k => (lE (fw T) k).2.2) (lE (fw T) i2).2.2 i2.toNat
      have hcn := cnt_nn (fun k => (lE (fw T) k).2.2) (lE (fw T) i2).2.2 i2.toNat
      rw [hU _ hh.1.1 hh.1.2, z32_id (x := i2 + 1) (by omega) (by omega), z32_id (x := cnt (fun k => (lE (fw T) k).2.2) (lE (fw T) i2).2.2 i2.toNat + 1) (by omega) (by omega)]
      refine ⟨by omega, by omega, by omega, by omega, by omega, by omega, fun q => by omega, fun q => ⟨fun q2 => by omega, fun q2 => ⟨by omega, by omega, ?_⟩⟩⟩
      refine ih2 (i2 + 1) (by omega) (by omega) _ _ (by omega) (by simp (disch := omega) only [up_un]; exact et) (fun j j0 j1 => ?_) (fun g g0 g1 => ?_) (fun b j hb => by rw [up_un (by omega), up_un (by omega), up_un (by omega), up_un (by omega)]; exact hf2 b j hb)
      · by_cases e : j = i2
        · rw [e]
          simp (disch := omega) only [up_un, up_at]
          exact ⟨trivial, trivial, trivial⟩
        · simp (disch := omega) only [up_un]
          exact hR j j0 (by omega)
      · rw [cnt_sI i20]
        by_cases e : (lE (fw T) i2).2.2 = g
        · rw [if_pos e, ← e, up_same]
        · rw [if_neg e, Int.add_zero, up_off (fun z => e z.symm)]
          simp (disch := omega) only [up_un]
          exact hU g g0 g1
  · rw [z32_id (by omega) (by omega)]
    refine ih (i + 1) (by omega) (by omega) _ (by omega) (fun j j0 j1 => ?_) (fun b j hb => by rw [up_ne hb]; exact hf b j hb)
    by_cases e : j = i
    · rw [e, up_same]
    · rw [up_off e]; exact hu j j0 (by omega)
theorem qMo_areFewest (hw : tWF T) (hc : RT M (r + 1) 0 T) (hF : RFw M r T) (h1 : fwS T → Q (xI 1) M) (h0 : ¬ fwS T → Q (xI 0) M) : Ru (d + 2) kMo_areFewest 0 [xO 9 r, xU, xU] [] M Q := by
  have h60 := fw_60 hw
  have e0 : M r 46 = (fw T).length := hF.1
  have main : ∀ i : Int, i ≤ (fw T).length → ∀ x : Int, 0 ≤ i → ((x = 1 ∧ tN T = (fw T).length ∧ ∀ j : Int, 0 ≤ j → j < i → tV T j = (lE (fw T) j).1 ∧ tL T j = (lE (fw T) j).2.1 ∧ tH T j = (lE (fw T) j).2.2) ∨ (x = 0 ∧ ¬ fwS T)) → Ru (d + 2) kMo_areFewest 21 [xO 9 r, xI x, xI i] [] M Q := by
    refine loop_up ((fw T).length : Int) (fun i hi ih x i0 hx => ?_)
    refine vMo_areFewest_21 ?_
    rw [e0]
    have out : x = 0 → rb x (Q (xI x) M) := fun e => by
      subst e
      rcases hx with ⟨e, -⟩ | ⟨-, e1⟩
      · omega
      · exact h0 e1
    refine ⟨fun y => ?_, fun y => ⟨fun q => out q, fun q => ?_⟩⟩
    · rcases hx with ⟨e, e1, e2⟩ | ⟨e, e1⟩
      · subst e; exact h1 ⟨e1, fun j j0 j1 => e2 j j0 (by omega)⟩
      · subst e; exact h0 e1
    · rcases hx with ⟨e, e1, e2⟩ | ⟨e, -⟩
      · obtain ⟨a1, a2, a3⟩ := RFw_at hF i0 (show i < (fw T).length by omega)
        have hci := hc.2.2.1 i i0 (by omega)
        rw [show (0 : Int) + 62 + i = 62 + i by omega, show (0 : Int) + 122 + i = 122 + i by omega] at hci
        rw [a1]
        refine ⟨by omega, qMo_valueOf hc hw i0 (by omega) (vMo_areFewest_44 ?_)⟩
        rw [z32_id (x := 62 + i) (by omega) (by omega), z32_id (x := 122 + i) (by omega) (by omega), z32_id (x := i + 1) (by omega) (by omega), a2, a3, hci.2.1, hci.2.2]
        have bad : ¬ (tV T i = (lE (fw T) i).1 ∧ tL T i = (lE (fw T) i).2.1 ∧ tH T i = (lE (fw T) i).2.2) → Ru (d + 2) kMo_areFewest 21 [xO 9 r, xI 0, xI (i + 1)] [] M Q := fun z => ih (i + 1) (by omega) (by omega) 0 (by omega) (Or.inr ⟨rfl, fun z2 => z (z2.2 i i0 (by omega))⟩)
        refine ⟨fun q1 => bad (fun z => q1 z.1.symm), fun q1 => ⟨by omega, by omega, fun q2 => bad (fun z => q2 z.2.1.symm), fun q2 => ⟨by omega, by omega, fun q3 => bad (fun z => q3 z.2.2.symm), fun q3 => ?_⟩⟩⟩
        refine ih (i + 1) (by omega) (by omega) 1 (by omega) (Or.inl ⟨rfl, e1, fun j j0 j1 => ?_⟩)
        by_cases ej : j = i
        · rw [ej]; exact ⟨(Classical.not_not.mp q1).symm, (Classical.not_not.mp q2).symm, (Classical.not_not.mp q3).symm⟩
        · exact e2 j j0 (by omega)
      · exact absurd e q
  refine vMo_areFewest_0 ?_
  rw [e0, hc.1]
  refine ⟨by decide, fun y => main 0 (Int.natCast_nonneg _) 0 (by decide) (Or.inr ⟨rfl, fun z => y z.1.symm⟩), fun y => main 0 (Int.natCast_nonneg _) 1 (by decide) (Or.inl ⟨rfl, (Classical.not_not.mp y).symm, fun j j0 j1 => by omega⟩)⟩
theorem gT_K (hw : tWF T) (hn : ¬ fwN T) {g : Int} (g0 : 0 ≤ g) : tK (gT T) g = if tU (gT T) g = 0 then -1 else tK T g := by
  have hnn := tU_nn (gT T) g
  by_cases e : tU (gT T) g = 0
  · rw [if_pos e, tK_0 e]
  · rw [if_neg e]
    have hu := gT_u hw hn (h := g) (by omega)
    by_cases g1 : g < 60
    · rw [tK_pos g0 g1 (by omega), tK_pos g0 g1 hu]
      rfl
    · rw [tK_out (by omega), tK_out (by omega)]
theorem qMo_gatherL (hw : tWF T) (hn : ¬ fwN T) (hc : RN M (r + 1) T (tK T)) (hF : RFw M r T) (x : Int) (h : ∀ N : xM, RN N (r + 1) (gT T) (tK (gT T)) → (∀ b j : Int, ¬ b = r + 1 → N b j = M b j) → Ru (d + 1) kMo_isDone 0 [xO 9 r] [] N (fun _ N => Ru (d + 2) kMo_gather 141 [xO 9 r, xI 61] [] N Q)) : Ru (d + 2) kMo_gather 47 [xO 9 r, xI x] [] M Q := by
  have h60 := fw_60 hw
  have hz := hw.2.2.2.2.2.1
  have e0 : M r 46 = (fw T).length := hF.1
  have gw := gT_wf hw hn
  refine vMo_gather_47 ⟨by decide, ?_⟩
  rw [e0]
  refine loop_up ((fw T).length : Int) (P := fun i => ∀ N : xM, 0 ≤ i → N (r + 1) 0 = (fw T).length → (∀ j : Int, 0 ≤ j → j < i → N (r + 1) (2 + j) = z32 (lE (fw T) j).1 ∧ N (r + 1) (62 + j) = (lE (fw T) j).2.1 ∧ N (r + 1) (122 + j) = (lE (fw T) j).2.2) → (∀ b j : Int, ¬ (b = r + 1 ∧ (j = 0 ∨ (2 ≤ j ∧ j < 182))) → N b j = M b j) → Ru (d + 2) kMo_gather 59 [xO 9 r, xI i] [] N Q) (fun i hi ih N i0 en hR hf => ?_) 0 (Int.natCast_nonneg _) _ (by decide) up_same (fun j j0 j1 => by omega) (fun b j hb => up_un (by omega))
  refine vMo_gather_59 ?_
  rw [hf r 46 (by omega), e0]
  refine ⟨fun y => ?_, fun y => ?_⟩
  · have hG : RN N (r + 1) (gT T) (tK T) := ⟨en, by rw [hf _ _ (by omega)]; exact hc.2.1, fun k k0 k1 => hR k k0 (by have : k < (fw T).length := k1; omega), fun g g0 g1 => by rw [hf _ _ (by omega)]; exact hc.2.2.2.1 g g0 g1, fun l l0 l1 => by rw [hf _ _ (by omega)]; exact hc.2.2.2.2 l l0 l1⟩
    refine loop_up 61 (P := fun i => ∀ N2 : xM, 0 ≤ i → RN N2 (r + 1) (gT T) (fun g => if g < i then tK (gT T) g else tK T g) → (∀ b j : Int, ¬ b = r + 1 → N2 b j = M b j) → Ru (d + 2) kMo_gather 120 [xO 9 r, xI i] [] N2 Q) (fun i2 hi2 ih2 N2 i20 hG2 hf2 => ?_) 0 (by decide) N (by decide) (RN_K hG (fun g g0 g1 => by rw [if_neg (by omega)])) (fun b j hb => hf b j (by omega))
    refine vMo_gather_120 ⟨fun y2 => ?_, fun y2 => ?_⟩
    · have e61 : i2 = 61 := by omega
      subst e61
      exact h N2 (RN_K hG2 (fun g g0 g1 => by rw [if_pos (by omega)])) hf2
    · refine qMo_frees gw.1 gw.2.2.2.2.2.1.2 hG2 i20 (by omega) (fun N3 hG3 hf3 => vMo_gather_131 ?_)
      rw [z32_id (by omega) (by omega)]
      refine ih2 (i2 + 1) (by omega) (by omega) N3 (by omega) (RN_K hG3 (fun g g0 g1 => ?_)) (fun b j hb => by rw [hf3 b j hb]; exact hf2 b j hb)
      show (if g = i2 ∧ tU (gT T) i2 = 0 then -1 else if g < i2 then tK (gT T) g else tK T g) = if g < i2 + 1 then tK (gT T) g else tK T g
      by_cases eg : g = i2
      · subst eg
        rw [if_pos (show g < g + 1 by omega), gT_K hw hn g0]
        by_cases eu : tU (gT T) g = 0
        · rw [if_pos ⟨rfl, eu⟩, if_pos eu]
        · rw [if_neg (fun z => eu z.2), if_neg (by omega), if_neg eu]
      · rw [if_neg (fun z => eg z.1)]
        by_cases el : g < i2
        · rw [if_pos el, if_pos (by omega)]
        · rw [if_neg el, if_neg (by omega)]
  · obtain ⟨a1, a2, a3⟩ := RFw_at hF i0 (show i < (fw T).length by omega)
    rw [z32_id (x := 2 + i) (by omega) (by omega), z32_id (x := 62 + i) (by omega) (by omega), z32_id (x := 122 + i) (by omega) (by omega), z32_id (x := i + 1) (by omega) (by omega)]
    simp (disch := omega) only [up_un]
    rw [hf (r + 28) i (by omega), hf (r + 29) i (by omega), hf (r + 30) i (by omega), a1, a2, a3]
    refine ⟨by omega, by omega, by omega, by omega, by omega, by omega, ?_⟩
    refine ih (i + 1) (by omega) (by omega) _ (by omega) (by simp (disch := omega) only [up_un]; exact en) (fun j j0 j1 => ?_) (fun b j hb => by rw [up_un (by omega), up_un (by omega), up_un (by omega)]; exact hf b j hb)
    by_cases e : j = i
    · rw [e]
      simp (disch := omega) only [up_un, up_at]
      exact ⟨trivial, trivial, trivial⟩
    · simp (disch := omega) only [up_un]
      exact hR j j0 (by omega)
end Gather

/-! THE TEXT IS READ, in both. -/
def wS (T : TB) (Z : Int) (S : Int → Int) : TB := (tN T, tV T, tL T, tH T, tY T, Z, S)
theorem wS_wf {T : TB} {Z : Int} {S : Int → Int} (hw : tWF T) (hs : okS Z S) : tWF (wS T Z S) := ⟨hw.1, hw.2.1, hw.2.2.1, hw.2.2.2.1, hw.2.2.2.2.1, hs.1, hs.2.1, hs.2.2⟩
theorem wf_okS {T : TB} (hw : tWF T) : okS (tZ T) (tS T) := ⟨hw.2.2.2.2.2.1, hw.2.2.2.2.2.2.1, hw.2.2.2.2.2.2.2⟩
theorem put_wS {T T2 : TB} {v l c Z : Int} {S : Int → Int} (h : isPut T v l c T2) : isPut (wS T Z S) v l c (wS T2 Z S) := by
  rcases h with ⟨p, h1, h2, h3⟩ | ⟨p, g, h1, h2, h3, h4⟩ | ⟨p, g, h1, h2, h3, h4, h5⟩
  · subst h3; exact Or.inl ⟨p, h1, h2, rfl⟩
  · subst h4; exact Or.inr (Or.inl ⟨p, g, h1, h2, h3, rfl⟩)
  · subst h5; exact Or.inr (Or.inr ⟨p, g, h1, h2, h3, h4, rfl⟩)
theorem put_ZS {T T2 : TB} {v l c : Int} (h : isPut T v l c T2) : tZ T2 = tZ T ∧ tS T2 = tS T ∧ tN T2 ≤ tN T + 1 := by
  rcases h with ⟨p, h1, h2, h3⟩ | ⟨p, g, h1, h2, h3, h4⟩ | ⟨p, g, h1, h2, h3, h4, h5⟩
  · subst h3; exact ⟨rfl, rfl, by omega⟩
  · subst h4; exact ⟨rfl, rfl, by show tN T ≤ tN T + 1; omega⟩
  · subst h5; exact ⟨rfl, rfl, Int.le_refl _⟩
/-- rules are put one behind another -/
def isPs : TB → List (Int × Int × Int) → TB → Prop
  | T, [], T2 => T2 = T
  | T, x :: l, T2 => ∃ T1 : TB, isPut T x.1 x.2.1 x.2.2 T1 ∧ isPs T1 l T2
theorem ps_app : ∀ {l : List (Int × Int × Int)} {T T1 T2 : TB} {x : Int × Int × Int}, isPs T l T1 → isPut T1 x.1 x.2.1 x.2.2 T2 → isPs T (l ++ [x]) T2
  | [], T, T1, T2, x, h, g => by
    have e : T1 = T := h
    subst e
    exact ⟨T2, g, rfl⟩
  | y :: l, T, T1, T2, x, h, g => by
    obtain ⟨T3, h1, h2⟩ := h
    exact ⟨T3, h1, ps_app h2 g⟩
theorem ps_wS {Z : Int} {S : Int → Int} : ∀ {l : List (Int × Int × Int)} {T T2 : TB}, isPs T l T2 → isPs (wS T Z S) l (wS T2 Z S)
  | [], T, T2, h => by
    have e : T2 = T := h
    subst e
    rfl
  | x :: l, T, T2, h => by
    obtain ⟨T3, h1, h2⟩ := h
    exact ⟨wS T3 Z S, put_wS h1, ps_wS h2⟩
theorem ps_wf : ∀ {l : List (Int × Int × Int)} {T T2 : TB}, tWF T → (∀ x, x ∈ l → vOK x) → isPs T l T2 → tWF T2 ∧ tN T2 ≤ tN T + l.length ∧ tZ T2 = tZ T ∧ tS T2 = tS T
  | [], T, T2, hw, hv, h => by
    have e : T2 = T := h
    subst e
    exact ⟨hw, by show tN T2 ≤ tN T2 + 0; omega, rfl, rfl⟩
  | x :: l, T, T2, hw, hv, h => by
    obtain ⟨T3, h1, h2⟩ := h
    have hx := hv x (List.mem_cons_self ..)
    have h3 := isPut_wf hw h1 hx.1.1 hx.1.2 hx.2.1.1 hx.2.1.2 hx.2.2.1 hx.2.2.2.1 hx.2.2.2.2
    have h4 := ps_wf h3 (fun y hy => hv y (List.mem_cons_of_mem _ hy)) h2
    have h5 := put_ZS h1
    refine ⟨h4.1, ?_, by rw [h4.2.2.1, h5.1], by rw [h4.2.2.2, h5.2.1]⟩
    have := h4.2.1
    rw [List.length_cons]
    omega
theorem ps_u : ∀ {l : List (Int × Int × Int)} {T A B : TB}, tWF T → (∀ x, x ∈ l → vOK x) → isPs T l A → isPs T l B → A = B
  | [], T, A, B, hw, hv, h, g => by
    have e : A = T := h
    have e2 : B = T := g
    rw [e, e2]
  | x :: l, T, A, B, hw, hv, h, g => by
    obtain ⟨T3, h1, h2⟩ := h
    obtain ⟨T4, g1, g2⟩ := g
    have hx := hv x (List.mem_cons_self ..)
    have e := isPut_u hw h1 g1
    subst e
    exact ps_u (isPut_wf hw h1 hx.1.1 hx.1.2 hx.2.1.1 hx.2.1.2 hx.2.2.1 hx.2.2.2.1 hx.2.2.2.2) (fun y hy => hv y (List.mem_cons_of_mem _ hy)) h2 g2
/-- a new table -/
def E0 : TB := (0, fun _ => 0, fun _ => 0, fun _ => 0, fun _ => 0, 8, fun _ => 4)
theorem E0_wf : tWF E0 := ⟨⟨by decide, by decide⟩, fun k k0 k1 => absurd k1 (by show ¬ k < 0; omega), fun i j i0 ij j1 => absurd j1 (by show ¬ j < 0; omega), fun h h0 h1 hu => absurd hu (by show ¬ (0 : Int) < 0; decide), fun h g _ _ _ _ hu => absurd hu (by show ¬ (0 : Int) < 0; decide), ⟨by decide, by decide⟩, fun l _ _ => ⟨by show (2 : Int) ≤ 4; decide, by show (4 : Int) ≤ 6; decide⟩, by decide⟩
def Zc (c : Int) : Int := if c = 0 then 8 else c
def Sc (c : Int) (S : Int → Int) : Int → Int := if c = 0 then (fun _ => 4) else S
theorem okZS {c : Int} {S : Int → Int} (h : c = 0 ∨ okS c S) : okS (Zc c) (Sc c S) := by
  rcases h with h | h
  · unfold Zc Sc
    rw [if_pos h, if_pos h]
    exact wf_okS E0_wf
  · have hc : ¬ c = 0 := by have := h.1; omega
    unfold Zc Sc
    rw [if_neg hc, if_neg hc]
    exact h
section TextP
variable (g : Int → Int) (z : Int)
def txE (F : Int → List (Int × Int × Int) → Int → (Int → Int) → Int × List (Int × Int × Int) × Int × (Int → Int)) (p : Int) (l : List (Int × Int × Int)) (c : Int) (S : Int → Int) (y : Int) : Int × List (Int × Int × Int) × Int × (Int → Int) := if g y = 59 then F (y + 1) l c S else if g y = -1 then (0, l, c, S) else (8 * y + 1, l, c, S)
/-- what a text says: fault, rules, strides -/
noncomputable def txP : Nat → Int → List (Int × Int × Int) → Int → (Int → Int) → Int × List (Int × Int × Int) × Int × (Int → Int)
  | 0, _, l, c, S => (1, l, c, S)
  | f + 1, k, l, c, S => if pb (isW g (nxp g z k)) = true then (if (stP g z 40 (nxp g z k + 7) 0 0 (fun _ => 0)).1 = 0 then txE g (txP f) 0 l (stP g z 40 (nxp g z k + 7) 0 0 (fun _ => 0)).2.2.1 (stP g z 40 (nxp g z k + 7) 0 0 (fun _ => 0)).2.2.2 (nxp g z (stP g z 40 (nxp g z k + 7) 0 0 (fun _ => 0)).2.1) else ((stP g z 40 (nxp g z k + 7) 0 0 (fun _ => 0)).1, l, c, S)) else (if (ruP g z k).1 = 0 then txE g (txP f) 0 (l ++ [((ruP g z k).2.2.1, (ruP g z k).2.2.2.1, (ruP g z k).2.2.2.2)]) c S (nxp g z (ruP g z k).2.1) else ((ruP g z k).1, l, c, S))
end TextP
section TextMath2
variable {g : Int → Int} {z : Int}
theorem W_in (hg : gOK g z) {y : Int} (h : isW g y) : y + 7 ≤ z := by
  refine Classical.byContradiction fun q => ?_
  have h1 := h.1 6 (by decide) (by decide)
  rw [hg.2.1 (y + 6) (by omega)] at h1
  exact absurd h1 (by decide)
theorem W_nd {y : Int} (h : isW g y) : ¬ dig (g y) := by
  have h1 := h.1 0 (by decide) (by decide)
  rw [Int.add_zero] at h1
  rw [h1]
  exact fun q => absurd q.2 (by decide)
theorem ruP_i (hg : gOK g z) {k : Int} (kz : k ≤ z) : ruP g z (nxp g z k) = ruP g z k := by
  have ii := nxp_i hg kz
  have iF : rnF g z (nxp g z k) 0 255 = rnF g z k 0 255 := by unfold rnF; rw [ii]
  have iV : rnV g z (nxp g z k) = rnV g z k := by unfold rnV; rw [ii]
  have iE : rnE g z (nxp g z k) = rnE g z k := by unfold rnE; rw [ii]
  have hq : qdP g z 4 0 (nxp g z k) 0 = qdP g z 4 0 k 0 := by
    show (if (0 : Int) = 0 then (if rnF g z (nxp g z k) 0 255 = 0 then qdP g z 3 1 (rnE g z (nxp g z k)) (256 * 0 + rnV g z (nxp g z k)) else (rnF g z (nxp g z k) 0 255, 0, 0)) else _) = (if (0 : Int) = 0 then (if rnF g z k 0 255 = 0 then qdP g z 3 1 (rnE g z k) (256 * 0 + rnV g z k) else (rnF g z k 0 255, 0, 0)) else _)
    rw [if_pos rfl, if_pos rfl, iF, iV, iE]
  unfold ruP
  rw [hq]
theorem ruP_nd {k : Int} (k0 : 0 ≤ nxp g z k) (hd : ¬ dig (g (nxp g z k))) : (ruP g z k).1 = 8 * nxp g z k + 1 := by
  have h1 : rnF g z k 0 255 = 8 * nxp g z k + 1 := if_neg hd
  have hq : qdP g z 4 0 k 0 = (8 * nxp g z k + 1, 0, 0) := by
    show (if (0 : Int) = 0 then (if rnF g z k 0 255 = 0 then qdP g z 3 1 (rnE g z k) (256 * 0 + rnV g z k) else (rnF g z k 0 255, 0, 0)) else _) = _
    rw [if_pos rfl, if_neg (by rw [h1]; omega), h1]
  unfold ruP
  rw [hq]
  have h2 : ¬ ((8 * nxp g z k + 1, (0 : Int), (0 : Int)) : Int × Int × Int).1 = 0 := by show ¬ 8 * nxp g z k + 1 = 0; omega
  rw [if_neg h2]
theorem txP_s (f : Nat) (k : Int) (l : List (Int × Int × Int)) (c : Int) (S : Int → Int) : (isW g (nxp g z k) → txP g z (f + 1) k l c S = if (stP g z 40 (nxp g z k + 7) 0 0 (fun _ => 0)).1 = 0 then txE g (txP g z f) 0 l (stP g z 40 (nxp g z k + 7) 0 0 (fun _ => 0)).2.2.1 (stP g z 40 (nxp g z k + 7) 0 0 (fun _ => 0)).2.2.2 (nxp g z (stP g z 40 (nxp g z k + 7) 0 0 (fun _ => 0)).2.1) else ((stP g z 40 (nxp g z k + 7) 0 0 (fun _ => 0)).1, l, c, S)) ∧ (¬ isW g (nxp g z k) → txP g z (f + 1) k l c S = if (ruP g z k).1 = 0 then txE g (txP g z f) 0 (l ++ [((ruP g z k).2.2.1, (ruP g z k).2.2.2.1, (ruP g z k).2.2.2.2)]) c S (nxp g z (ruP g z k).2.1) else ((ruP g z k).1, l, c, S)) := by
  constructor
  · intro h
    show (if pb (isW g (nxp g z k)) = true then _ else _) = _
    rw [if_pos (pb_t h)]
  · intro h
    show (if pb (isW g (nxp g z k)) = true then _ else _) = _
    rw [if_neg (by rw [pb_f h]; decide)]
theorem st_ok (hg : gOK g z) {y : Int} (y0 : 0 ≤ y) (h : isW g y) (hs : (stP g z 40 (y + 7) 0 0 (fun _ => 0)).1 = 0) : (y + 7 ≤ (stP g z 40 (y + 7) 0 0 (fun _ => 0)).2.1 ∧ (stP g z 40 (y + 7) 0 0 (fun _ => 0)).2.1 ≤ z) ∧ okS (stP g z 40 (y + 7) 0 0 (fun _ => 0)).2.2.1 (stP g z 40 (y + 7) 0 0 (fun _ => 0)).2.2.2 := stP_ok hg 40 (y + 7) 0 0 (fun _ => 0) (by omega) (W_in hg h) (Int.le_refl _) rfl (fun l l0 l1 => by omega) hs
/-- what a text that can be says -/
theorem txP_ok (hg : gOK g z) : ∀ (f : Nat) (k : Int) (l : List (Int × Int × Int)) (c : Int) (S : Int → Int), 0 ≤ k → k ≤ z → 7 * (l.length : Int) ≤ k → (∀ x, x ∈ l → vOK x) → (c = 0 ∨ okS c S) → (txP g z f k l c S).1 = 0 → ((∀ x, x ∈ (txP g z f k l c S).2.1 → vOK x) ∧ ((txP g z f k l c S).2.1.length : Int) ≤ 57) ∧ ((txP g z f k l c S).2.2.1 = 0 ∨ okS (txP g z f k l c S).2.2.1 (txP g z f k l c S).2.2.2)
  | 0, k, l, c, S, _, _, _, _, _, h => absurd (show (1 : Int) = 0 from h) (by decide)
  | f + 1, k, l, c, S, k0, kz, hl, hv, hs, h => by
    have hz := hg.1
    have hn := nxp_in hg k kz
    -- what stands behind a line
    have aux : ∀ (p : Int) (l2 : List (Int × Int × Int)) (c2 : Int) (S2 : Int → Int), 0 ≤ p → p ≤ z → 7 * (l2.length : Int) ≤ p → (∀ x, x ∈ l2 → vOK x) → (c2 = 0 ∨ okS c2 S2) → (txE g (txP g z f) 0 l2 c2 S2 (nxp g z p)).1 = 0 → ((∀ x, x ∈ (txE g (txP g z f) 0 l2 c2 S2 (nxp g z p)).2.1 → vOK x) ∧ ((txE g (txP g z f) 0 l2 c2 S2 (nxp g z p)).2.1.length : Int) ≤ 57) ∧ ((txE g (txP g z f) 0 l2 c2 S2 (nxp g z p)).2.2.1 = 0 ∨ okS (txE g (txP g z f) 0 l2 c2 S2 (nxp g z p)).2.2.1 (txE g (txP g z f) 0 l2 c2 S2 (nxp g z p)).2.2.2) := fun p l2 c2 S2 p0 pz hl2 hv2 hs2 hh => by
      have hn2 := nxp_in hg p pz
      unfold txE at hh ⊢
      by_cases e0 : g (nxp g z p) = 59
      · rw [if_pos e0] at hh ⊢
        have : nxp g z p < z := by
          refine Classical.byContradiction fun q => ?_
          rw [hg.2.1 _ (by omega)] at e0
          exact absurd e0 (by decide)
        exact txP_ok hg f (nxp g z p + 1) l2 c2 S2 (by omega) (by omega) (by omega) hv2 hs2 hh
      · rw [if_neg e0] at hh ⊢
        by_cases e1 : g (nxp g z p) = -1
        · rw [if_pos e1]
          exact ⟨⟨hv2, by show (l2.length : Int) ≤ 57; omega⟩, hs2⟩
        · rw [if_neg e1] at hh
          have h' : 8 * nxp g z p + 1 = 0 := hh
          omega
    by_cases hw : isW g (nxp g z k)
    · have e := (txP_s (z := z) f k l c S).1 hw
      by_cases e0 : (stP g z 40 (nxp g z k + 7) 0 0 (fun _ => 0)).1 = 0
      · rw [if_pos e0] at e
        have h3 := st_ok hg (by omega) hw e0
        rw [e] at h ⊢
        exact aux _ l _ _ (by omega) h3.1.2 (by omega) hv (Or.inr h3.2) h
      · rw [if_neg e0] at e
        rw [e] at h
        exact absurd h e0
    · have e := (txP_s (z := z) f k l c S).2 hw
      by_cases e0 : (ruP g z k).1 = 0
      · rw [if_pos e0] at e
        have h3 := ruP_ok hg k0 kz e0
        rw [e] at h ⊢
        refine aux _ _ c S (by omega) h3.1.2 ?_ (fun x hx => ?_) hs h
        · rw [List.length_append, List.length_singleton]
          omega
        · rcases List.mem_append.mp hx with hx | hx
          · exact hv x hx
          · rw [List.mem_singleton.mp hx]; exact h3.2
      · rw [if_neg e0] at e
        rw [e] at h
        exact absurd h e0
end TextMath2
section TextClass
variable {d : Nat} {M : xM} {Q : xQ} {a t : Int} {g : Int → Int} {z : Int}
theorem qTable_clear (h : ∀ N : xM, CT N t E0 → (∀ b j : Int, b < t ∨ t + 6 < b → N b j = M b j) → Q xU N) : Ru (d + 1) kTable_clear 0 [xO 6 t, xU] [] M Q := by
  refine vTable_clear_0 (loop_up 60 (P := fun i => ∀ N : xM, 0 ≤ i → N t 0 = 0 → (∀ j : Int, 0 ≤ j → j < i → N (t + 5) j = 0) → (∀ b j : Int, b < t ∨ t + 6 < b → N b j = M b j) → Ru (d + 1) kTable_clear 7 [xO 6 t, xI i] [] N Q) (fun i hi ih N i0 e0 hu hf => ?_) 0 (by decide) _ (by decide) up_same (fun j j0 j1 => by omega) (fun b j hb => up_un (by omega)))
  refine vTable_clear_7 ⟨fun y => qTable_takeFirstStrides (vTable_clear_30 (h _ ?_ (fun b j hb => ?_))), fun y => ⟨by omega, ?_⟩⟩
  · unfold tfM
    refine ⟨?_, fun k k0 k1 => absurd k1 (by show ¬ k < 0; omega), fun g g0 g1 => ⟨?_, fun z => absurd z (by show ¬ (0 : Int) < 0; decide)⟩, ?_, fun l l0 l1 => ?_⟩
    · simp (disch := omega) only [up_un]
      exact e0
    · simp (disch := omega) only [up_un]
      exact hu g g0 (by omega)
    · simp (disch := omega) only [up_un, up_at]
      rfl
    · have l1' : l < 8 := l1
      show _ = (4 : Int)
      rcases (show l = 0 ∨ l = 1 ∨ l = 2 ∨ l = 3 ∨ l = 4 ∨ l = 5 ∨ l = 6 ∨ l = 7 by omega) with q | q | q | q | q | q | q | q <;> (subst q; simp (disch := omega) only [up_un, up_at])
  · unfold tfM
    simp (disch := omega) only [up_un]
    exact hf b j hb
  · rw [z32_id (by omega) (by omega)]
    refine ih (i + 1) (by omega) (by omega) _ (by omega) (by rw [up_un (by omega)]; exact e0) (fun j j0 j1 => ?_) (fun b j hb => by rw [up_un (by omega)]; exact hf b j hb)
    by_cases e : j = i
    · rw [e, up_same]
    · rw [up_off e]; exact hu j j0 (by omega)
theorem qTape_readLine {T : TB} {k : Int} (hw : tWF T) (hc : CT M t T) (hr : tN T < 60) (hap : a + 1 < t ∨ t + 6 < a) (hT : TG M a g z) (e : M a 2 = k) (k0 : 0 ≤ k) (kz : k ≤ z) (e3 : M a 3 = 0)
    (h1 : isW g (nxp g z k) → ∀ N : xM, N a 3 = (stP g z 40 (nxp g z k + 7) 0 0 (fun _ => 0)).1 → (0 ≤ N a 2 ∧ N a 2 ≤ z) → ((stP g z 40 (nxp g z k + 7) 0 0 (fun _ => 0)).1 = 0 → N a 2 = (stP g z 40 (nxp g z k + 7) 0 0 (fun _ => 0)).2.1 ∧ CT N t (wS T (stP g z 40 (nxp g z k + 7) 0 0 (fun _ => 0)).2.2.1 (stP g z 40 (nxp g z k + 7) 0 0 (fun _ => 0)).2.2.2)) → (∀ b j : Int, ¬ (b = a ∧ (j = 2 ∨ j = 3)) → b < t ∨ t + 6 < b → N b j = M b j) → Q xU N)
    (h0 : ¬ isW g (nxp g z k) → ∀ N : xM, N a 3 = (ruP g z k).1 → (0 ≤ N a 2 ∧ N a 2 ≤ z) → ((ruP g z k).1 = 0 → N a 2 = (ruP g z k).2.1 ∧ ∃ T2 : TB, isPut T (ruP g z k).2.2.1 (ruP g z k).2.2.2.1 (ruP g z k).2.2.2.2 T2 ∧ CT N t T2) → (∀ b j : Int, ¬ (b = a ∧ (j = 2 ∨ j = 3)) → b < t ∨ t + 6 < b → N b j = M b j) → Q xU N) : Ru (d + 4) kTape_readLine 0 [xO 7 a, xO 6 t, xU] [] M Q := by
  have hz := hT.1.1
  have hn := nxp_in hT.1 k kz
  refine vTape_readLine_0 (qTape_nextSign hT e k0 kz (fun N n2 hf => vTape_readLine_4 ?_))
  have hTN : TG N a g z := TG_fr hT (hf _ _ (by omega)) (fun j => hf _ _ (by omega))
  have e33 : N a 3 = 0 := by rw [hf _ _ (by omega)]; exact e3
  have hcN : CT N t T := CT_fr hc (fun b j b0 b1 => hf b j (by omega))
  refine qTape_isDigit (fun hd => vTape_readLine_9 ⟨fun q => absurd q (by decide), fun _ => ?_⟩) (fun hd => vTape_readLine_9 ⟨fun _ => ?_, fun q => absurd rfl q⟩)
  · have hno : ¬ isW g (nxp g z k) := fun q => W_nd q hd
    have ei := ruP_i hT.1 kz
    refine qTape_readRule hw hcN hr hap hTN n2 (by omega) hn.2.1 e33 (fun N2 m3 m2 m22 hf2 => vTape_readLine_17 (vTape_readLine_58 ?_))
    rw [ei] at m3 m22
    exact h0 hno N2 m3 m2 m22 (fun b j h7 h8 => by rw [hf2 b j h7 (by omega)]; exact hf b j (by omega))
  · refine qTape_isStrides hTN n2 (by omega) hn.2.1 (fun hW => vTape_readLine_24 ⟨fun q => absurd q (by decide), fun _ => ?_⟩) (fun hW => vTape_readLine_24 ⟨fun _ => ?_, fun q => absurd rfl q⟩)
    · have hWi := W_in hT.1 hW
      rw [n2, z32_id (by omega) (by omega)]
      refine qTape_readStrides hap (TG_fr hTN (up_un (by omega)) (fun j => up_un (by omega))) up_same (by omega) hWi (by rw [up_un (by omega)]; exact e33) (fun N2 m3 m2 m22 hf2 => vTape_readLine_46 (vTape_readLine_58 (h1 hW N2 m3 m2 (fun q => ?_) (fun b j h7 h8 => by rw [hf2 b j h7 (by omega) (by omega), up_un (by omega)]; exact hf b j (by omega)))))
      obtain ⟨p1, p2, p3⟩ := m22 q
      have same : ∀ b j : Int, t ≤ b → b ≤ t + 5 → ¬ (b = t ∧ j = 6) → N2 b j = M b j := fun b j b0 b1 b2 => by rw [hf2 b j (by omega) b2 (by omega), up_un (by omega)]; exact hf b j (by omega)
      refine ⟨p1, ?_, fun k k0 k1 => ?_, fun h g0 g1 => ?_, p2, p3⟩
      · rw [same _ _ (by omega) (by omega) (by omega)]; exact hc.1
      · rw [same _ _ (by omega) (by omega) (by omega), same _ _ (by omega) (by omega) (by omega), same _ _ (by omega) (by omega) (by omega)]; exact hc.2.1 k k0 k1
      · rw [same _ _ (by omega) (by omega) (by omega), same _ _ (by omega) (by omega) (by omega)]; exact hc.2.2.1 h g0 g1
    · rw [n2]
      have hX := ruP_nd (g := g) (z := z) (k := k) (by omega) hd
      refine qTape_fail (by omega) (by omega) (by decide) (by decide) (fun q => absurd e33 q) (fun _ => vTape_readLine_58 (h0 hW _ (by rw [up_same, hX]) (by rw [up_un (by omega), n2]; omega) (fun q => by omega) (fun b j h7 h8 => by rw [up_un (by omega)]; exact hf b j (by omega))))
theorem qTape_readInto (hap : a + 1 < t ∨ t + 6 < a) (hT : TG M a g z) (h : ∀ N : xM, ((txP g z 401 0 [] 0 (fun _ => 0)).1 = 0 → ∃ T0 : TB, isPs E0 (txP g z 401 0 [] 0 (fun _ => 0)).2.1 T0 ∧ CT N t (wS T0 (Zc (txP g z 401 0 [] 0 (fun _ => 0)).2.2.1) (Sc (txP g z 401 0 [] 0 (fun _ => 0)).2.2.1 (txP g z 401 0 [] 0 (fun _ => 0)).2.2.2))) → (∀ b j : Int, ¬ (b = a ∧ (j = 2 ∨ j = 3)) → b < t ∨ t + 6 < b → N b j = M b j) → Q (xI (txP g z 401 0 [] 0 (fun _ => 0)).1) N) : Ru (d + 5) kTape_readInto 0 [xO 7 a, xO 6 t, xU, xU] [] M Q := by
  have hz := hT.1.1
  generalize hX : txP g z 401 0 [] 0 (fun _ => 0) = X at h
  refine vTape_readInto_0 (qTable_clear (fun N0 hc0 hf0 => vTape_readInto_4 ?_))
  -- the end of it
  have fin : ∀ (N : xM) (m i : Int), (m = 0 ∨ ¬ N a 3 = 0) → N a 3 = X.1 → (X.1 = 0 → ∃ T0 : TB, isPs E0 X.2.1 T0 ∧ CT N t (wS T0 (Zc X.2.2.1) (Sc X.2.2.1 X.2.2.2))) → (∀ b j : Int, ¬ (b = a ∧ (j = 2 ∨ j = 3)) → b < t ∨ t + 6 < b → N b j = M b j) → Ru (d + 5) kTape_readInto 18 [xO 7 a, xO 6 t, xI m, xI i] [] N Q := fun N m i hm eX hT0 hf => by
    have hq := h N hT0 hf
    rw [← eX] at hq
    exact vTape_readInto_18 ⟨fun _ => hq, fun _ => ⟨fun _ => hq, fun q => ⟨fun _ => hq, fun q2 => (hm.elim (fun e => absurd e q) (fun e => absurd e q2))⟩⟩⟩
  have main : ∀ p : Int, p ≤ z → ∀ (N : xM) (i : Int) (l : List (Int × Int × Int)) (c : Int) (S : Int → Int) (T0 : TB) (f : Nat), 0 ≤ p → 0 ≤ i → i ≤ p → N a 2 = p → N a 3 = 0 → 401 ≤ f + p → txP g z f p l c S = X → 7 * (l.length : Int) ≤ p → (∀ x, x ∈ l → vOK x) → (c = 0 ∨ okS c S) → isPs E0 l T0 → CT N t (wS T0 (Zc c) (Sc c S)) → (∀ b j : Int, ¬ (b = a ∧ (j = 2 ∨ j = 3)) → b < t ∨ t + 6 < b → N b j = M b j) → Ru (d + 5) kTape_readInto 18 [xO 7 a, xO 6 t, xI 1, xI i] [] N Q := by
    refine loop_up z (fun p hp ih N i l c S T0 f p0 i0 ip e2 e3 hfu htx hl hv hs hps hc hf => ?_)
    have hTN : TG N a g z := TG_fr hT (hf _ _ (by omega) (by omega)) (fun j => hf _ _ (by omega) (by omega))
    obtain ⟨f', rfl⟩ : ∃ f' : Nat, f = f' + 1 := ⟨f - 1, by omega⟩
    have hn := nxp_in hT.1 p hp
    have hwf := ps_wf E0_wf hv hps
    have hwf2 := wS_wf hwf.1 (okZS hs)
    have hN0 : tN T0 ≤ 0 + (l.length : Int) := hwf.2.1
    have hroom : tN (wS T0 (Zc c) (Sc c S)) < 60 := by show tN T0 < 60; omega
    -- behind a line without a fault
    have go : ∀ (N2 : xM) (p2 : Int) (l2 : List (Int × Int × Int)) (c2 : Int) (S2 : Int → Int) (T2 : TB), p + 1 ≤ p2 → p2 ≤ z → N2 a 2 = p2 → N2 a 3 = 0 → txE g (txP g z f') 0 l2 c2 S2 (nxp g z p2) = X → 7 * (l2.length : Int) ≤ p2 → (∀ x, x ∈ l2 → vOK x) → (c2 = 0 ∨ okS c2 S2) → isPs E0 l2 T2 → CT N2 t (wS T2 (Zc c2) (Sc c2 S2)) → (∀ b j : Int, ¬ (b = a ∧ (j = 2 ∨ j = 3)) → b < t ∨ t + 6 < b → N2 b j = M b j) → Ru (d + 5) kTape_readInto 41 [xO 7 a, xO 6 t, xI 1, xI i] [] N2 Q := fun N2 p2 l2 c2 S2 T2 pp pz m2 m3 htx2 hl2 hv2 hs2 hps2 hc2 hf2 => by
      have hT2 : TG N2 a g z := TG_fr hT (hf2 _ _ (by omega) (by omega)) (fun j => hf2 _ _ (by omega) (by omega))
      have hn2 := nxp_in hT.1 p2 pz
      refine vTape_readInto_41 ⟨fun q => absurd m3 q, fun _ => qTape_atEnd hT2 m2 (by omega) pz (fun N3 n2 hf3 => vTape_readInto_52 ?_)⟩
      have hf3M : ∀ b j : Int, ¬ (b = a ∧ (j = 2 ∨ j = 3)) → b < t ∨ t + 6 < b → N3 b j = M b j := fun b j h7 h8 => by rw [hf3 b j (by omega)]; exact hf2 b j h7 h8
      have n3 : N3 a 3 = 0 := by rw [hf3 _ _ (by omega)]; exact m3
      have hc3 : CT N3 t (wS T2 (Zc c2) (Sc c2 S2)) := CT_fr hc2 (fun b j b0 b1 => hf3 b j (by omega))
      have hT3 : TG N3 a g z := TG_fr hT (hf3M _ _ (by omega) (by omega)) (fun j => hf3M _ _ (by omega) (by omega))
      unfold txE at htx2
      by_cases ee : g (nxp g z p2) = -1
      · rw [if_neg (by omega), if_pos ee] at htx2
        rw [if_pos ee]
        have eX1 : X.1 = 0 := by rw [← htx2]
        refine ⟨fun _ => ⟨fun _ => vTape_readInto_71 (fin N3 0 _ (Or.inl rfl) (by rw [eX1]; exact n3) (fun _ => ⟨T2, ?_, ?_⟩) hf3M), fun q => absurd rfl q⟩, fun q => absurd (by decide) q⟩
        · rw [← htx2]; exact hps2
        · rw [← htx2]; exact hc3
      · rw [if_neg ee]
        refine ⟨fun q => absurd rfl q, fun _ => ⟨fun q => absurd q (by decide), fun _ => ?_⟩⟩
        have ii := nxp_i hT.1 pz
        refine qTape_expect hT3 n2 (by omega) hn2.2.1 (by decide) n3 (fun N4 o3 o2 o22 hf4 => vTape_readInto_71 ?_)
        have iS : rsF g z (nxp g z p2) 59 = rsF g z p2 59 := by unfold rsF; rw [ii]
        rw [iS] at o3 o22
        rw [ii] at o22
        have hf4M : ∀ b j : Int, ¬ (b = a ∧ (j = 2 ∨ j = 3)) → b < t ∨ t + 6 < b → N4 b j = M b j := fun b j h7 h8 => by rw [hf4 b j h7]; exact hf3M b j h7 h8
        have hc4 : CT N4 t (wS T2 (Zc c2) (Sc c2 S2)) := CT_fr hc3 (fun b j b0 b1 => hf4 b j (by omega))
        by_cases e9 : g (nxp g z p2) = 59
        · rw [if_pos e9] at htx2
          have hr0 : rsF g z p2 59 = 0 := if_pos e9
          have hrs := rs_ok hT.1 (by omega) pz (by decide) hr0
          rw [hr0] at o3
          rw [z32_id (by omega) (by omega)]
          exact ih (nxp g z p2 + 1) (by omega) hrs.2.2 N4 (i + 1) l2 c2 S2 T2 f' (by omega) (by omega) (by omega) (o22 hr0) o3 (by omega) htx2 (by omega) hv2 hs2 hps2 hc4 hf4M
        · rw [if_neg e9, if_neg ee] at htx2
          have hr0 : rsF g z p2 59 = 8 * nxp g z p2 + 1 := if_neg e9
          have eX1 : X.1 = 8 * nxp g z p2 + 1 := by rw [← htx2]
          rw [hr0] at o3
          exact fin N4 1 _ (Or.inr (by omega)) (by omega) (fun q => by omega) hf4M
    -- behind a line with a fault
    have bad : ∀ N2 : xM, ¬ N2 a 3 = 0 → N2 a 3 = X.1 → (∀ b j : Int, ¬ (b = a ∧ (j = 2 ∨ j = 3)) → b < t ∨ t + 6 < b → N2 b j = M b j) → Ru (d + 5) kTape_readInto 41 [xO 7 a, xO 6 t, xI 1, xI i] [] N2 Q := fun N2 m3 eX hf2 => vTape_readInto_41 ⟨fun _ => ⟨fun _ => vTape_readInto_71 (fin N2 0 _ (Or.inl rfl) eX (fun q => absurd (by rw [eX]; exact q) m3) hf2), fun q => absurd rfl q⟩, fun q => absurd m3 q⟩
    refine vTape_readInto_18 ⟨fun q => by omega, fun _ => ⟨fun q => absurd q (by decide), fun _ => ⟨fun q => absurd e3 q, fun _ => ?_⟩⟩⟩
    refine qTape_readLine hwf2 hc hroom hap hTN e2 p0 hp e3 (fun hW N2 m3 m2 m22 hf2 => ?_) (fun hW N2 m3 m2 m22 hf2 => ?_)
    · have hf2M : ∀ b j : Int, ¬ (b = a ∧ (j = 2 ∨ j = 3)) → b < t ∨ t + 6 < b → N2 b j = M b j := fun b j h7 h8 => by rw [hf2 b j h7 h8]; exact hf b j h7 h8
      have es := (txP_s (z := z) f' p l c S).1 hW
      by_cases e0 : (stP g z 40 (nxp g z p + 7) 0 0 (fun _ => 0)).1 = 0
      · rw [if_pos e0] at es
        have h3 := st_ok hT.1 (by omega) hW e0
        obtain ⟨p1, p2⟩ := m22 e0
        have hc9 : ¬ (stP g z 40 (nxp g z p + 7) 0 0 (fun _ => 0)).2.2.1 = 0 := by have := h3.2.1; omega
        refine go N2 _ l _ _ T0 (by omega) h3.1.2 p1 (by rw [m3, e0]) (by rw [← htx, es]) (by omega) hv (Or.inr h3.2) hps ?_ hf2M
        unfold Zc Sc
        rw [if_neg hc9, if_neg hc9]
        exact p2
      · rw [if_neg e0] at es
        have eX1 : X.1 = (stP g z 40 (nxp g z p + 7) 0 0 (fun _ => 0)).1 := by rw [← htx, es]
        exact bad N2 (by rw [m3]; exact e0) (by rw [m3, eX1]) hf2M
    · have hf2M : ∀ b j : Int, ¬ (b = a ∧ (j = 2 ∨ j = 3)) → b < t ∨ t + 6 < b → N2 b j = M b j := fun b j h7 h8 => by rw [hf2 b j h7 h8]; exact hf b j h7 h8
      have es := (txP_s (z := z) f' p l c S).2 hW
      by_cases e0 : (ruP g z p).1 = 0
      · rw [if_pos e0] at es
        have h3 := ruP_ok hT.1 p0 hp e0
        obtain ⟨p1, T2, p2, p3⟩ := m22 e0
        -- the same rule, put without strides
        have hx := h3.2
        have hlen : ((l ++ [((ruP g z p).2.2.1, (ruP g z p).2.2.2.1, (ruP g z p).2.2.2.2)]).length : Int) = l.length + 1 := by rw [List.length_append, List.length_singleton]; omega
        have hps3 : isPs E0 (l ++ [((ruP g z p).2.2.1, (ruP g z p).2.2.2.1, (ruP g z p).2.2.2.2)]) (wS T2 8 (fun _ => 4)) := by
          refine ps_app hps ?_
          have h9 := put_wS (Z := 8) (S := fun _ => 4) p2
          have e9 : wS (wS T0 (Zc c) (Sc c S)) 8 (fun _ => 4) = T0 := by
            have e1 : tZ T0 = 8 := hwf.2.2.1
            have e4 : tS T0 = fun _ => 4 := hwf.2.2.2
            show (tN T0, tV T0, tL T0, tH T0, tY T0, (8 : Int), fun _ => (4 : Int)) = T0
            rw [← e4, ← e1]
          rw [e9] at h9
          exact h9
        have eZS := put_ZS p2
        have e9 : wS (wS T2 8 (fun _ => 4)) (Zc c) (Sc c S) = T2 := by
          have e1 : tZ T2 = Zc c := eZS.1
          have e4 : tS T2 = Sc c S := eZS.2.1
          show (tN T2, tV T2, tL T2, tH T2, tY T2, Zc c, Sc c S) = T2
          rw [← e4, ← e1]
        refine go N2 _ _ c S (wS T2 8 (fun _ => 4)) (by omega) h3.1.2 p1 (by rw [m3, e0]) (by rw [← htx, es]) (by omega) (fun x hx => ?_) hs hps3 (by rw [e9]; exact p3) hf2M
        rcases List.mem_append.mp hx with hx | hx
        · exact hv x hx
        · rw [List.mem_singleton.mp hx]; exact h3.2
      · rw [if_neg e0] at es
        have eX1 : X.1 = (ruP g z p).1 := by rw [← htx, es]
        exact bad N2 (by rw [m3]; exact e0) (by rw [m3, eX1]) hf2M
  have hc1 : CT (up (up N0 a 2 0) a 3 0) t E0 := CT_fr hc0 (fun b j b0 b1 => by rw [up_un (by omega), up_un (by omega)])
  exact main 0 hz.1 _ 0 [] 0 (fun _ => 0) E0 401 (by decide) (by decide) (by decide) (by rw [up_un (by omega), up_same]) up_same (by decide) hX (by decide) (fun x hx => absurd hx (List.not_mem_nil)) (Or.inl rfl) rfl hc1 (fun b j h7 h8 => by rw [up_un (by omega), up_un (by omega)]; exact hf0 b j h8)
end TextClass

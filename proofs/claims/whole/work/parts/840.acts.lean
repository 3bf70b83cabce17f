/-! ACTS: what is kept ahead of one, and what is done behind it. -/
section Acts
variable {d : Nat} {M : xM} {Q : xQ} {s r : Int} {T T2 : TB} {a : Int} {P : Int → TB} {kp : Int} {S : Int → TB} {tt : Int} {g : Int → Int} {z : Int}
/-- the class, an act begun: all but the table that is there now -/
def ActC (M : xM) (s : Int) (T : TB) (a : Int) (P : Int → TB) (kp : Int) (S : Int → TB) (g : Int → Int) (z : Int) : Prop := (M s 5 = pA a ∧ prm M s ∧ ∀ i : Int, 0 ≤ i → i < pA a → CT M (M (s + 17) i) (pP a P T i)) ∧ ((M s 6 = kp ∧ M (s + 18) 0 = s + 184 ∧ M (s + 18) 1 = s + 191) ∧ ∀ i : Int, 0 ≤ i → i < 2 → kb kp i = 1 → CT M (s + 184 + 7 * i) (S i)) ∧ (M s 7 = -1 ∧ M s 8 = 0) ∧ TG M (s + 1) g z ∧ fixd M s
theorem KN_0 (h : M s 8 = 0) : KN M s T := by
  unfold KN
  rw [h]
  exact ⟨by decide, fun h => absurd h (by decide), fun h => absurd h (by decide), fun h => absurd h (by decide), fun h => absurd h (by decide), fun h => absurd h (by decide)⟩
theorem pP_last : pP a P T (pA a - 1) = T := if_pos rfl
theorem ActC_done (hw : Wf T a P kp S) (h : ActC M s T a P kp S g z) (hc : CT M (s + 3) T2) {t2 : Int} (t0 : 0 ≤ t2) (hd : isTd T2 T t2) : Cls M s T2 (pA a) (pP a P T) kp S t2 g z := by
  have hp := pA_in hw.2.1.1 hw.2.1.2
  exact ⟨hc, h.1, h.2.1, ⟨t0, Or.inr ⟨h.2.2.1.1, by omega, by rw [pP_last]; exact hd⟩⟩, KN_0 h.2.2.1.2, h.2.2.2.1, h.2.2.2.2⟩
theorem ActC_fr {N : xM} (hw : Wf T a P kp S) (h : ActC M s T a P kp S g z) (e : ∀ b j : Int, ¬ (s + 3 ≤ b ∧ b ≤ s + 16) → ¬ (s + 111 ≤ b ∧ b ≤ s + 113) → N b j = M b j) : ActC N s T a P kp S g z := by
  obtain ⟨⟨h1, ⟨p1, p2⟩, h2⟩, ⟨⟨h3, h3', h3''⟩, h4⟩, h5, h6, h7⟩ := h
  have hp := pA_in hw.2.1.1 hw.2.1.2
  have e17 : ∀ j : Int, N (s + 17) j = M (s + 17) j := fun j => e _ _ (by omega) (by omega)
  refine ⟨⟨by rw [e _ _ (by omega) (by omega)]; exact h1, ⟨fun i i0 i1 => by rw [e17]; exact p1 i i0 i1, fun i j i0 ij j1 => by rw [e17, e17]; exact p2 i j i0 ij j1⟩, fun i i0 i1 => ?_⟩, ⟨⟨by rw [e _ _ (by omega) (by omega)]; exact h3, by rw [e _ _ (by omega) (by omega)]; exact h3', by rw [e _ _ (by omega) (by omega)]; exact h3''⟩, fun i i0 i1 q => CT_fr (h4 i i0 i1 q) (fun b j b0 b1 => e b j (by omega) (by omega))⟩, ⟨by rw [e _ _ (by omega) (by omega)]; exact h5.1, by rw [e _ _ (by omega) (by omega)]; exact h5.2⟩, TG_fr h6 (e _ _ (by omega) (by omega)) (fun j => e _ _ (by omega) (by omega)), ⟨⟨?_, ?_, ?_, ?_⟩, fun j j0 j1 => ?_⟩⟩
  · rw [e17]
    obtain ⟨j, j0, j1⟩ := p1 i i0 (by omega)
    exact CT_fr (h2 i i0 i1) (fun b j b0 b1 => e b j (by omega) (by omega))
  · rw [e _ _ (by omega) (by omega)]; exact h7.1.1
  · rw [e _ _ (by omega) (by omega)]; exact h7.1.2.1
  · rw [e _ _ (by omega) (by omega)]; exact h7.1.2.2.1
  · rw [e _ _ (by omega) (by omega)]; exact h7.1.2.2.2
  · rw [e _ _ (by omega) (by omega)]; exact h7.2 j j0 j1
theorem qRS_dropOldestAct (h : ∀ N : xM, (∀ i : Int, 0 ≤ i → i < 9 → N (s + 17) i = M (s + 17) (i + 1)) → N (s + 17) 9 = M (s + 17) 0 → N s 5 = 9 → (∀ b j : Int, ¬ b = s + 17 → ¬ (b = s ∧ j = 5) → N b j = M b j) → Q xU N) : Ru d kRS_dropOldestAct 0 [xO 8 s, xU, xU] [] M Q := by
  have main : ∀ i : Int, i ≤ 10 → ∀ N : xM, 1 ≤ i → (∀ j : Int, 0 ≤ j → j < i - 1 → N (s + 17) j = M (s + 17) (j + 1)) → (∀ j : Int, i - 1 ≤ j → N (s + 17) j = M (s + 17) j) → (∀ b j : Int, ¬ b = s + 17 → N b j = M b j) → Ru d kRS_dropOldestAct 9 [xO 8 s, xO 6 (M (s + 17) 0), xI i] [] N Q := by
    refine loop_up 10 (fun i hi ih N i0 h1 h2 h3 => ?_)
    refine vRS_dropOldestAct_9 ⟨fun y => ⟨by decide, ?_⟩, fun y => ?_⟩
    · refine h _ (fun j j0 j1 => ?_) ?_ (up_at rfl rfl) (fun b j q1 q2 => ?_)
      · rw [up_un (by omega), up_un (by omega)]; exact h1 j j0 (by omega)
      · rw [up_un (by omega), up_at rfl rfl]
      · rw [up_un (by omega), up_un (by omega)]; exact h3 b j q1
    · rw [z32_id (x := i - 1) (by omega) (by omega), z32_id (x := i + 1) (by omega) (by omega)]
      refine ⟨by omega, by omega, ih (i + 1) (by omega) (by omega) _ (by omega) (fun j j0 j1 => ?_) (fun j j0 => ?_) (fun b j q => ?_)⟩
      · by_cases c : j = i - 1
        · rw [up_at rfl c, h2 i (by omega), c, show i - 1 + 1 = i by omega]
        · rw [up_un (by omega)]; exact h1 j j0 (by omega)
      · rw [up_un (by omega)]; exact h2 j (by omega)
      · rw [up_un (by omega)]; exact h3 b j q
  exact vRS_dropOldestAct_0 ⟨by decide, main 1 (by decide) M (by decide) (fun j j0 j1 => by omega) (fun j _ => rfl) (fun _ _ _ => rfl)⟩
theorem pP_lt {i : Int} (h : ¬ i = pA a - 1) (ha : a < 10) : pP a P T i = P i := by
  unfold pP; rw [if_neg h, if_pos ha]
theorem pP_ge {i : Int} (h : ¬ i = pA a - 1) (ha : ¬ a < 10) : pP a P T i = P (i + 1) := by
  unfold pP; rw [if_neg h, if_neg ha]
/-- beginAct from where there is room -/
theorem qRS_beginAct13 {P2 : Int → TB} {e : Int} (hw : Wf T a P kp S) (e0 : 0 ≤ e) (e1 : e < 10) (h1 : CT M (s + 3) T) (h2 : M s 5 = e) (hp : prm M s) (h3 : ∀ i : Int, 0 ≤ i → i < e → CT M (M (s + 17) i) (P2 i)) (h4 : (M s 6 = kp ∧ M (s + 18) 0 = s + 184 ∧ M (s + 18) 1 = s + 191) ∧ ∀ i : Int, 0 ≤ i → i < 2 → kb kp i = 1 → CT M (s + 184 + 7 * i) (S i)) (h5 : TG M (s + 1) g z) (h6 : fixd M s) (ee : e = pA a - 1) (hP : ∀ i : Int, 0 ≤ i → i < e → P2 i = pP a P T i) (k : ∀ N : xM, ActC N s T a P kp S g z → CT N (s + 3) T → (∀ b j : Int, ¬ (b = s ∧ (j = 5 ∨ j = 7 ∨ j = 8)) → ¬ (s + 114 ≤ b ∧ b ≤ s + 183) → N b j = M b j) → Q xU N) : Ru (d + 2) kRS_beginAct 13 [xO 8 s] [] M Q := by
  obtain ⟨p1, p2⟩ := hp
  obtain ⟨je, je0, ej⟩ := p1 e e0 e1
  have hn := hw.1.1
  have hZ := hw.1.2.2.2.2.2.1
  refine vRS_beginAct_13 ?_
  rw [h2]
  refine ⟨⟨e0, e1⟩, ?_⟩
  rw [ej]
  refine qTable_copyFrom (by omega) (fun N0 hcp hf0 => vRS_beginAct_29 ?_)
  have e5 : N0 s 5 = e := by rw [hf0 _ _ (by omega)]; exact h2
  rw [e5, z32_id (by omega) (by omega)]
  have hf : ∀ b j : Int, ¬ (b = s ∧ (j = 5 ∨ j = 7 ∨ j = 8)) → up (up (up N0 s 5 (e + 1)) s 7 (-1)) s 8 0 b j = N0 b j := fun b j q => by
    rw [up_un (by omega), up_un (by omega), up_un (by omega)]
  have hf1 : ∀ b j : Int, ¬ (b = s ∧ (j = 5 ∨ j = 7 ∨ j = 8)) → (b < s + 114 + 7 * je ∨ s + 114 + 7 * je + 6 < b) → up (up (up N0 s 5 (e + 1)) s 7 (-1)) s 8 0 b j = M b j := fun b j q q2 => by
    rw [hf b j q]; exact hf0 b j q2
  have g17 : ∀ j : Int, up (up (up N0 s 5 (e + 1)) s 7 (-1)) s 8 0 (s + 17) j = M (s + 17) j := fun j => hf1 _ _ (by omega) (by omega)
  refine k _ ⟨⟨?_, ⟨fun i i0 i1 => by rw [g17]; exact p1 i i0 i1, fun i j i0 ij j1 => by rw [g17, g17]; exact p2 i j i0 ij j1⟩, fun i i0 i1 => ?_⟩, ⟨⟨by rw [hf1 _ _ (by omega) (by omega)]; exact h4.1.1, by rw [hf1 _ _ (by omega) (by omega)]; exact h4.1.2.1, by rw [hf1 _ _ (by omega) (by omega)]; exact h4.1.2.2⟩, fun i i0 i1 q => CT_fr (h4.2 i i0 i1 q) (fun b j b0 b1 => hf1 b j (by omega) (by omega))⟩, ⟨by rw [up_un (by omega), up_at rfl rfl], up_at rfl rfl⟩, TG_fr h5 (hf1 _ _ (by omega) (by omega)) (fun j => hf1 _ _ (by omega) (by omega)), ⟨⟨?_, ?_, ?_, ?_⟩, fun j j0 j1 => ?_⟩⟩ (CT_fr h1 (fun b j b0 b1 => hf1 b j (by omega) (by omega))) (fun b j q1 q2 => hf1 b j q1 (by omega))
  · rw [up_un (by omega), up_un (by omega), up_at rfl rfl]; omega
  · rw [g17]
    by_cases c : i = e
    · have hl : pP a P T e = T := by rw [ee]; exact pP_last
      rw [c, ej, hl]
      exact CT_fr (hcp T (by omega) (by omega) h1) (fun b j b0 b1 => hf b j (by omega))
    · have i2 : i < e := by omega
      obtain ⟨ji, ji0, eji⟩ := p1 i i0 (by omega)
      have ne := p2 i e i0 i2 e1
      rw [← hP i i0 i2]
      exact CT_fr (h3 i i0 i2) (fun b j b0 b1 => hf1 b j (by omega) (by omega))
  · rw [hf1 _ _ (by omega) (by omega)]; exact h6.1.1
  · rw [hf1 _ _ (by omega) (by omega)]; exact h6.1.2.1
  · rw [hf1 _ _ (by omega) (by omega)]; exact h6.1.2.2.1
  · rw [hf1 _ _ (by omega) (by omega)]; exact h6.1.2.2.2
  · rw [hf1 _ _ (by omega) (by omega)]; exact h6.2 j j0 j1
theorem qRS_beginAct (hw : Wf T a P kp S) (hC : Cls M s T a P kp S tt g z) (k : ∀ N : xM, ActC N s T a P kp S g z → CT N (s + 3) T → (∀ b j : Int, ¬ (b = s ∧ (j = 5 ∨ j = 7 ∨ j = 8)) → ¬ b = s + 17 → ¬ (s + 114 ≤ b ∧ b ≤ s + 183) → N b j = M b j) → Q xU N) : Ru (d + 2) kRS_beginAct 0 [xO 8 s] [] M Q := by
  have ha := hw.2.1
  obtain ⟨h1, ⟨h2, hp, h3⟩, h4, h6, h7, h8, h9⟩ := hC
  refine vRS_beginAct_0 ?_
  rw [h2]
  refine ⟨fun y => ?_, fun y => qRS_dropOldestAct (fun N n1 n2 n3 hf => ?_)⟩
  · have e : pA a = a + 1 := if_pos y
    exact qRS_beginAct13 hw ha.1 y h1 h2 hp h3 h4 h8 h9 (by omega) (fun i i0 i1 => (pP_lt (by omega) y).symm) (fun N c1 c2 c3 => k N c1 c2 (fun b j q1 q2 q3 => c3 b j q1 q3))
  · have e : pA a = 10 := if_neg y
    have a10 : a = 10 := by omega
    obtain ⟨p1, p2⟩ := hp
    have hpN : prm N s := by
      refine ⟨fun i i0 i1 => ?_, fun i j i0 ij j1 => ?_⟩
      · by_cases c : i < 9
        · rw [n1 i i0 c]; exact p1 (i + 1) (by omega) (by omega)
        · rw [show i = 9 by omega, n2]; exact p1 0 (by decide) (by decide)
      · by_cases c : j < 9
        · rw [n1 i i0 (by omega), n1 j (by omega) c]; exact p2 (i + 1) (j + 1) (by omega) (by omega) (by omega)
        · rw [show j = 9 by omega, n2, n1 i i0 (by omega)]
          exact fun q => p2 0 (i + 1) (by decide) (by omega) (by omega) q.symm
    refine qRS_beginAct13 (P2 := fun i => P (i + 1)) hw (e := 9) (by decide) (by decide) (CT_fr h1 (fun b j b0 b1 => hf b j (by omega) (by omega))) n3 hpN (fun i i0 i1 => ?_) ⟨⟨by rw [hf _ _ (by omega) (by omega)]; exact h4.1.1, by rw [hf _ _ (by omega) (by omega)]; exact h4.1.2.1, by rw [hf _ _ (by omega) (by omega)]; exact h4.1.2.2⟩, fun i i0 i1 q => CT_fr (h4.2 i i0 i1 q) (fun b j b0 b1 => hf b j (by omega) (by omega))⟩ (TG_fr h8 (hf _ _ (by omega) (by omega)) (fun j => hf _ _ (by omega) (by omega))) ⟨⟨?_, ?_, ?_, ?_⟩, fun j j0 j1 => ?_⟩ (by omega) (fun i i0 i1 => (pP_ge (by omega) y).symm) (fun N2 c1 c2 c3 => k N2 c1 c2 (fun b j q1 q2 q3 => by rw [c3 b j q1 q3]; exact hf b j q2 (by omega)))
    · rw [n1 i i0 i1]
      obtain ⟨j, j0, ej⟩ := p1 (i + 1) (by omega) (by omega)
      exact CT_fr (h3 (i + 1) (by omega) (by omega)) (fun b j b0 b1 => hf b j (by omega) (by omega))
    · rw [hf _ _ (by omega) (by omega)]; exact h9.1.1
    · rw [hf _ _ (by omega) (by omega)]; exact h9.1.2.1
    · rw [hf _ _ (by omega) (by omega)]; exact h9.1.2.2.1
    · rw [hf _ _ (by omega) (by omega)]; exact h9.1.2.2.2
    · rw [hf _ _ (by omega) (by omega)]; exact h9.2 j j0 j1
end Acts

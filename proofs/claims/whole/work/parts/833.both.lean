/-! THE STATE IN ONE, and one call of both. -/
theorem qe {Q : xQ} {N : xM} {x y : Int} (h : Q (xI x) N) (e : y = x) : Q (xI y) N := e ▸ h
theorem qeL {Q : xQ} {N : xM} {x y : Int} (h : Q (xL x) N) (e : y = x) : Q (xL y) N := e ▸ h
abbrev ST : Type := TB × Int × (Int → TB) × Int × (Int → TB) × Int × (Int → Int) × Int
def oWf (σ : ST) : Prop := Wf σ.1 σ.2.1 σ.2.2.1 σ.2.2.2.1 σ.2.2.2.2.1
def oCl (M : xM) (s : Int) (σ : ST) : Prop := Cls M s σ.1 σ.2.1 σ.2.2.1 σ.2.2.2.1 σ.2.2.2.2.1 σ.2.2.2.2.2.1 σ.2.2.2.2.2.2.1 σ.2.2.2.2.2.2.2
def oRf (M : xM) (r : Int) (σ : ST) : Prop := Ref M r σ.1 σ.2.1 σ.2.2.1 σ.2.2.2.1 σ.2.2.2.2.1 σ.2.2.2.2.2.1 σ.2.2.2.2.2.2.1 σ.2.2.2.2.2.2.2
def Rel (M : xM) : Prop := ∃ σ : ST, oWf σ ∧ oCl M 0 σ ∧ oRf M 198 σ
def frC (M N : xM) (s : Int) : Prop := ∀ b j : Int, ¬ (s ≤ b ∧ b ≤ s + 197) → N b j = M b j
def frR (M N : xM) (r : Int) : Prop := ∀ b j : Int, ¬ (r ≤ b ∧ b ≤ r + 32) → N b j = M b j
def Bo (kA : Nat) (LA : List xV) (kB : Nat) (LB : List xV) (w : Int → xV) : Prop := ∀ (d : Nat) (M : xM), Rel M → Ru (d + 100) kA 0 LA [] M (fun v N => (∀ j : Int, N (-1) j = M (-1) j) ∧ ∃ x : Int, v = w x ∧ ∀ Q2 : xQ, (∀ N2 : xM, Rel N2 → (∀ j : Int, N2 (-1) j = M (-1) j) → Q2 (w x) N2) → Ru (d + 100) kB 0 LB [] N Q2)
section Fr
variable {M N : xM} {s r : Int} {T : TB} {a : Int} {P : Int → TB} {kp : Int} {S : Int → TB} {tt : Int} {g : Int → Int} {z : Int}
theorem fixd_fr (h : fixd M s) (e : ∀ b j : Int, s ≤ b → b ≤ s + 197 → N b j = M b j) : fixd N s := by
  refine ⟨⟨?_, ?_, ?_, ?_⟩, fun j j0 j1 => ?_⟩
  · rw [e _ _ (by omega) (by omega)]; exact h.1.1
  · rw [e _ _ (by omega) (by omega)]; exact h.1.2.1
  · rw [e _ _ (by omega) (by omega)]; exact h.1.2.2.1
  · rw [e _ _ (by omega) (by omega)]; exact h.1.2.2.2
  · rw [e _ _ (by omega) (by omega)]; exact h.2 j j0 j1
theorem KN_fr (h : KN M s T) (e8 : N s 8 = M s 8) (e : ∀ b j : Int, s + 19 ≤ b → b ≤ s + 110 → ¬ (s + 27 ≤ b ∧ b ≤ s + 34) → ¬ (s + 50 ≤ b ∧ b ≤ s + 64) → ¬ b = s + 35 + 7 → ¬ b = s + 35 → N b j = M b j) (e' : ∀ j : Int, ¬ j = 17 → N (s + 35) j = M (s + 35) j) : KN N s T := by
  obtain ⟨x0, k1, k2, k3, k4, k5⟩ := h
  have e35 : N (s + 35 + 12) = M (s + 35 + 12) := funext fun j => e _ _ (by omega) (by omega) (by omega) (by omega) (by omega) (by omega)
  have e36 : N (s + 35 + 1) = M (s + 35 + 1) := funext fun j => e _ _ (by omega) (by omega) (by omega) (by omega) (by omega) (by omega)
  have e66 : N (s + 65 + 1) = M (s + 65 + 1) := funext fun j => e _ _ (by omega) (by omega) (by omega) (by omega) (by omega) (by omega)
  unfold KN
  rw [e8, e35, e36, e66]
  refine ⟨x0, fun q => SP_fr (k1 q) (fun b j b0 b1 => e b j (by omega) (by omega) (by omega) (by omega) (by omega) (by omega)), fun q => NT_fr (k2 q) (fun b j b0 b1 b2 b3 => ?_), k3, fun q => FW_fr (k4 q) (fun b j b0 b1 => e b j (by omega) (by omega) (by omega) (by omega) (by omega) (by omega)), fun q => ?_⟩
  · by_cases hb : b = s + 35
    · subst hb
      exact e' j (by omega)
    · exact e b j (by omega) (by omega) (by omega) (by omega) (by omega) (by omega)
  obtain ⟨m, F, K, q1, q2⟩ := k5 q
  exact ⟨m, F, K, q1, CS_fr q2 (fun b j b0 b1 => e b j (by omega) (by omega) (by omega) (by omega) (by omega) (by omega))⟩
theorem Cls_fr (hw : Wf T a P kp S) (h : Cls M s T a P kp S tt g z) (e : ∀ b j : Int, s ≤ b → b ≤ s + 197 → N b j = M b j) : Cls N s T a P kp S tt g z := by
  obtain ⟨h1, ⟨h2, ⟨p1, p2⟩, h3⟩, ⟨⟨h4, h4', h4''⟩, h5⟩, h6, h7, h8, h9⟩ := h
  have e17 : ∀ j : Int, N (s + 17) j = M (s + 17) j := fun j => e _ _ (by omega) (by omega)
  refine ⟨CT_fr h1 (fun b j b0 b1 => e b j (by omega) (by omega)), ⟨by rw [e _ _ (by omega) (by omega)]; exact h2, ⟨fun i i0 i1 => by rw [e17]; exact p1 i i0 i1, fun i j i0 ij j1 => by rw [e17, e17]; exact p2 i j i0 ij j1⟩, fun i i0 i1 => ?_⟩, ⟨⟨by rw [e _ _ (by omega) (by omega)]; exact h4, by rw [e _ _ (by omega) (by omega)]; exact h4', by rw [e _ _ (by omega) (by omega)]; exact h4''⟩, fun i i0 i1 q => CT_fr (h5 i i0 i1 q) (fun b j b0 b1 => e b j (by omega) (by omega))⟩, ?_, KN_fr h7 (e _ _ (by omega) (by omega)) (fun b j b0 b1 _ _ _ _ => e b j (by omega) (by omega)) (fun j _ => e _ _ (by omega) (by omega)), TG_fr h8 (e _ _ (by omega) (by omega)) (fun j => e _ _ (by omega) (by omega)), fixd_fr h9 e⟩
  · rw [e17]
    obtain ⟨j, j0, j1⟩ := p1 i i0 (by have := hw.2.1; omega)
    exact CT_fr (h3 i i0 i1) (fun b j b0 b1 => e b j (by omega) (by omega))
  · rw [e _ _ (by omega) (by omega)]
    exact h6
end Fr
theorem bo_mk {kA : Nat} {LA : List xV} {kB : Nat} {LB : List xV} {w : Int → xV} (ans : ST → Int → ST → Prop)
    (hA : ∀ (d : Nat) (M : xM) (Q : xQ) (σ : ST), oWf σ → oCl M 0 σ → (∀ (N : xM) (x : Int) (σ2 : ST), ans σ x σ2 → oWf σ2 → oCl N 0 σ2 → frC M N 0 → Q (w x) N) → Ru (d + 100) kA 0 LA [] M Q)
    (hB : ∀ (d : Nat) (M : xM) (Q : xQ) (σ : ST) (x : Int) (σ2 : ST), oWf σ → oWf σ2 → oRf M 198 σ → ans σ x σ2 → (∀ N : xM, oRf N 198 σ2 → frR M N 198 → Q (w x) N) → Ru (d + 100) kB 0 LB [] M Q) : Bo kA LA kB LB w := by
  rintro d M ⟨σ, hw, hC, hR⟩
  refine hA d M _ σ hw hC (fun N x σ2 ha hw2 hC2 hf => ⟨fun j => hf _ _ (by omega), x, rfl, fun Q2 k => ?_⟩)
  refine hB d N Q2 σ x σ2 hw hw2 (Ref_fr hw.1 hR (fun b j h => hf b j (by unfold rOk at h; omega))) ha (fun N2 hR2 hf2 => k N2 ⟨σ2, hw2, Cls_fr hw2 hC2 (fun b j b0 b1 => hf2 b j (by omega)), hR2⟩ (fun j => by rw [hf2 _ _ (by omega), hf _ _ (by omega)]))
/-- a call that only asks -/
theorem bo_q {kA : Nat} {LA : List xV} {kB : Nat} {LB : List xV} {w : Int → xV} (sp : ST → Int → Prop)
    (hA : ∀ (d : Nat) (M : xM) (Q : xQ) (T : TB) (a : Int) (P : Int → TB) (kp : Int) (S : Int → TB) (tt : Int) (g : Int → Int) (z : Int), Wf T a P kp S → Cls M 0 T a P kp S tt g z → (∀ (N : xM) (x : Int), sp (T, a, P, kp, S, tt, g, z) x → Cls N 0 T a P kp S tt g z → frC M N 0 → Q (w x) N) → Ru (d + 100) kA 0 LA [] M Q)
    (hB : ∀ (d : Nat) (M : xM) (Q : xQ) (T : TB) (a : Int) (P : Int → TB) (kp : Int) (S : Int → TB) (tt : Int) (g : Int → Int) (z : Int) (x : Int), Wf T a P kp S → Ref M 198 T a P kp S tt g z → sp (T, a, P, kp, S, tt, g, z) x → (∀ N : xM, Ref N 198 T a P kp S tt g z → frR M N 198 → Q (w x) N) → Ru (d + 100) kB 0 LB [] M Q) : Bo kA LA kB LB w :=
  bo_mk (fun σ x σ2 => σ2 = σ ∧ sp σ x)
    (fun d M Q ⟨T, a, P, kp, S, tt, g, z⟩ hw hC k => hA d M Q T a P kp S tt g z hw hC (fun N x hx hC2 hf => k N x _ ⟨rfl, hx⟩ hw hC2 hf))
    (fun d M Q ⟨T, a, P, kp, S, tt, g, z⟩ x σ2 hw hw2 hR ha k => hB d M Q T a P kp S tt g z x hw hR ha.2 (fun N hR2 hf => k N (by rw [ha.1]; exact hR2) hf))
/-- an act's tables ahead -/
def pA (a : Int) : Int := if a < 10 then a + 1 else 10
def pP (a : Int) (P : Int → TB) (T : TB) : Int → TB := fun i => if i = pA a - 1 then T else if a < 10 then P i else P (i + 1)
theorem pA_in {a : Int} (a0 : 0 ≤ a) (a1 : a ≤ 10) : 1 ≤ pA a ∧ pA a ≤ 10 := by unfold pA; split <;> omega
theorem Wf_act {T T2 : TB} {a : Int} {P : Int → TB} {kp : Int} {S : Int → TB} (hw : Wf T a P kp S) (hw2 : tWF T2) : Wf T2 (pA a) (pP a P T) kp S := by
  obtain ⟨h1, h2, h3, h4, h5⟩ := hw
  have hp := pA_in h2.1 h2.2
  refine ⟨hw2, ⟨by omega, hp.2⟩, fun i i0 i1 => ?_, h4, h5⟩
  unfold pP
  by_cases c : i = pA a - 1
  · rw [if_pos c]; exact h1
  · rw [if_neg c]
    by_cases q : a < 10
    · rw [if_pos q]
      have e : pA a = a + 1 := if_pos q
      exact h3 i i0 (by omega)
    · rw [if_neg q]
      have e : pA a = 10 := if_neg q
      exact h3 (i + 1) (by omega) (by omega)
/-- a call that may be an act -/
theorem bo_act {kA : Nat} {LA : List xV} {kB : Nat} {LB : List xV} {w : Int → xV} (spR : ST → Int → Prop) (spA : ST → Int → TB → Prop)
    (hA : ∀ (d : Nat) (M : xM) (Q : xQ) (T : TB) (a : Int) (P : Int → TB) (kp : Int) (S : Int → TB) (tt : Int) (g : Int → Int) (z : Int), Wf T a P kp S → Cls M 0 T a P kp S tt g z → (∀ (N : xM) (x : Int), spR (T, a, P, kp, S, tt, g, z) x → Cls N 0 T a P kp S tt g z → frC M N 0 → Q (w x) N) → (∀ (N : xM) (x : Int) (T2 : TB), spA (T, a, P, kp, S, tt, g, z) x T2 → tWF T2 → (∀ t2 : Int, 0 ≤ t2 → isTd T2 T t2 → Cls N 0 T2 (pA a) (pP a P T) kp S t2 g z) → frC M N 0 → Q (w x) N) → Ru (d + 100) kA 0 LA [] M Q)
    (hR : ∀ (d : Nat) (M : xM) (Q : xQ) (T : TB) (a : Int) (P : Int → TB) (kp : Int) (S : Int → TB) (tt : Int) (g : Int → Int) (z : Int) (x : Int), Wf T a P kp S → Ref M 198 T a P kp S tt g z → spR (T, a, P, kp, S, tt, g, z) x → (∀ N : xM, Ref N 198 T a P kp S tt g z → frR M N 198 → Q (w x) N) → Ru (d + 100) kB 0 LB [] M Q)
    (hB : ∀ (d : Nat) (M : xM) (Q : xQ) (T : TB) (a : Int) (P : Int → TB) (kp : Int) (S : Int → TB) (tt : Int) (g : Int → Int) (z : Int) (x : Int) (T2 : TB), Wf T a P kp S → tWF T2 → Ref M 198 T a P kp S tt g z → spA (T, a, P, kp, S, tt, g, z) x T2 → (∀ (N : xM) (t2 : Int), 0 ≤ t2 → isTd T2 T t2 → Ref N 198 T2 (pA a) (pP a P T) kp S t2 g z → frR M N 198 → Q (w x) N) → Ru (d + 100) kB 0 LB [] M Q) : Bo kA LA kB LB w := by
  rintro d M ⟨⟨T, a, P, kp, S, tt, g, z⟩, hw, hC, hF⟩
  refine hA d M _ T a P kp S tt g z hw hC (fun N x hx hC2 hf => ⟨fun j => hf _ _ (by omega), x, rfl, fun Q2 k => ?_⟩) (fun N x T2 hx hw2 hC2 hf => ⟨fun j => hf _ _ (by omega), x, rfl, fun Q2 k => ?_⟩)
  · refine hR d N Q2 T a P kp S tt g z x hw (Ref_fr hw.1 hF (fun b j h => hf b j (by unfold rOk at h; omega))) hx (fun N2 hR2 hf2 => k N2 ⟨(T, a, P, kp, S, tt, g, z), hw, Cls_fr hw hC2 (fun b j b0 b1 => hf2 b j (by omega)), hR2⟩ (fun j => by rw [hf2 _ _ (by omega), hf _ _ (by omega)]))
  · refine hB d N Q2 T a P kp S tt g z x T2 hw hw2 (Ref_fr hw.1 hF (fun b j h => hf b j (by unfold rOk at h; omega))) hx (fun N2 t2 t0 ht hR2 hf2 => k N2 ⟨(T2, pA a, pP a P T, kp, S, t2, g, z), Wf_act hw hw2, Cls_fr (Wf_act hw hw2) (hC2 t2 t0 ht) (fun b j b0 b1 => hf2 b j (by omega)), hR2⟩ (fun j => by rw [hf2 _ _ (by omega), hf _ _ (by omega)]))
section Asks
variable {d : Nat} {M : xM} {Q : xQ} {s r : Int} {T : TB} {a : Int} {P : Int → TB} {kp : Int} {S : Int → TB} {tt : Int} {g : Int → Int} {z : Int}
theorem frC_r : frC M M s := fun _ _ _ => rfl
theorem frR_r : frR M M r := fun _ _ _ => rfl
/-- after seeSpans -/
theorem fr_see {N : xM} (hf : ∀ b j : Int, ¬ (b = s ∧ j = 8) → ¬ (s + 19 ≤ b ∧ b ≤ s + 26) → N b j = M b j) : frC M N s := fun b j h => hf b j (by omega) (by omega)
theorem fr_seeN {N : xM} (hf : ∀ b j : Int, ¬ (b = s ∧ j = 8) → ¬ (s + 19 ≤ b ∧ b ≤ s + 26) → ¬ (s + 35 ≤ b ∧ b ≤ s + 49) → N b j = M b j) : frC M N s := fun b j h => hf b j (by omega) (by omega) (by omega)
theorem fr_seeK {N : xM} (hf : ∀ b j : Int, ¬ (b = s ∧ j = 8) → ¬ (s + 19 ≤ b ∧ b ≤ s + 26) → ¬ (s + 35 ≤ b ∧ b ≤ s + 49) → ¬ (s + 65 ≤ b ∧ b ≤ s + 68) → N b j = M b j) : frC M N s := fun b j h => hf b j (by omega) (by omega) (by omega) (by omega)
theorem frC_t {M1 M2 : xM} (h1 : frC M M1 s) (h2 : frC M1 M2 s) : frC M M2 s := fun b j h => by rw [h2 b j h, h1 b j h]
theorem frR_t {M1 M2 : xM} (h1 : frR M M1 r) (h2 : frR M1 M2 r) : frR M M2 r := fun b j h => by rw [h2 b j h, h1 b j h]
/-! rule -/
def spRule (T : TB) (k w x : Int) : Prop := (¬ (0 ≤ k ∧ k < tN T) → (w = 0 → x = 0) ∧ (¬ w = 0 → x = -2)) ∧ (0 ≤ k → k < tN T → (w = 0 → x = z32 (tV T k)) ∧ (w = 1 → x = tL T k) ∧ (w = 2 → x = tH T k) ∧ (w = 3 → (idN T k ∧ x = 1) ∨ (¬ idN T k ∧ x = 0)) ∧ (w = 4 → isOut T k x) ∧ (¬ (0 ≤ w ∧ w ≤ 4) → x = -2))
theorem aRS_rule {k w : Int} (hw : Wf T a P kp S) (hC : Cls M s T a P kp S tt g z) (kk : ∀ (N : xM) (x : Int), spRule T k w x → Cls N s T a P kp S tt g z → frC M N s → Q (xI x) N) : Ru (d + 100) kRS_rule 0 [xO 8 s, xI k, xI w] [] M Q := by
  have hc := hC.1
  have hn := hw.1.1
  refine vRS_rule_0 ?_
  rw [hc.1]
  refine ⟨fun y => ⟨fun q => kk M _ ⟨fun _ => ⟨fun _ => by omega, fun _ => rfl⟩, fun _ _ => by omega⟩ hC frC_r, fun q => kk M _ ⟨fun _ => ⟨fun _ => rfl, fun _ => by omega⟩, fun _ _ => by omega⟩ hC frC_r⟩, fun y => ⟨fun y2 => ?_, fun y2 => ⟨fun q => kk M _ ⟨fun _ => ⟨fun _ => by omega, fun _ => rfl⟩, fun _ _ => by omega⟩ hC frC_r, fun q => kk M _ ⟨fun _ => ⟨fun _ => rfl, fun _ => by omega⟩, fun _ _ => by omega⟩ hC frC_r⟩⟩⟩
  have hr := hc.2.1 k (by omega) y2
  have hh := (hw.1.2.1 k (by omega) y2).2.2.2
  rw [hr.1, hr.2.1, hr.2.2 hh.1]
  have nb : ¬ (0 ≤ k ∧ k < tN T) → False := fun h => h ⟨by omega, y2⟩
  refine ⟨fun q => ⟨by omega, kk M _ ⟨fun h => absurd ⟨by omega, y2⟩ h, fun _ _ => ⟨fun _ => rfl, by omega, by omega, by omega, by omega, by omega⟩⟩ hC frC_r⟩, fun q0 => ⟨fun q => ⟨by omega, kk M _ ⟨fun h => absurd ⟨by omega, y2⟩ h, fun _ _ => ⟨by omega, fun _ => rfl, by omega, by omega, by omega, by omega⟩⟩ hC frC_r⟩, fun q1 => ⟨fun q => ⟨by omega, kk M _ ⟨fun h => absurd ⟨by omega, y2⟩ h, fun _ _ => ⟨by omega, by omega, fun _ => rfl, by omega, by omega, by omega⟩⟩ hC frC_r⟩, fun q2 => ⟨fun q => ?_, fun q3 => ⟨fun q => ?_, fun q4 => kk M _ ⟨fun h => absurd ⟨by omega, y2⟩ h, fun _ _ => ⟨by omega, by omega, by omega, by omega, by omega, fun _ => rfl⟩⟩ hC frC_r⟩⟩⟩⟩⟩
  · refine qRS_seeSpans hw hC (fun N hN hS _ hf => vRS_rule_95 ⟨by omega, fun x => ?_, fun x => ?_⟩)
    · refine kk N _ ⟨fun h => absurd ⟨by omega, y2⟩ h, fun _ _ => ⟨by omega, by omega, by omega, fun _ => Or.inr ⟨fun i => x ?_, rfl⟩, by omega, by omega⟩⟩ hN (fr_see hf)
      rw [hS.2.2.1 k (by omega) y2]
      exact i
    · refine kk N _ ⟨fun h => absurd ⟨by omega, y2⟩ h, fun _ _ => ⟨by omega, by omega, by omega, fun _ => Or.inl ⟨?_, rfl⟩, by omega, by omega⟩⟩ hN (fr_see hf)
      have := Classical.not_not.mp x
      rw [hS.2.2.1 k (by omega) y2] at this
      exact this
  · refine qRS_seeSpans hw hC (fun N hN hS _ hf => vRS_rule_119 ⟨by omega, kk N _ ⟨fun h => absurd ⟨by omega, y2⟩ h, fun _ _ => ⟨by omega, by omega, by omega, by omega, fun _ => hS.2.2.2 k (by omega) y2, by omega⟩⟩ hN (fr_see hf)⟩)
theorem qMo_isRule {k : Int} (hw : tWF T) (hc : RT M (r + 1) 0 T) (h1 : 0 ≤ k → k < tN T → Q (xI 1) M) (h0 : ¬ (0 ≤ k ∧ k < tN T) → Q (xI 0) M) : Ru (d + 1) kMo_isRule 0 [xO 9 r, xI k] [] M Q := by
  have hn := hw.1
  have e := hc.1
  refine vMo_isRule_0 ⟨by decide, ?_⟩
  rw [e, z32_id (by omega) (by omega)]
  exact qMo_isIn (fun y1 y2 => vMo_isRule_15 (h1 y1 (by omega))) (fun y => vMo_isRule_15 (h0 (by omega)))
theorem aMo_rule {k w x : Int} (hw : Wf T a P kp S) (hR : Ref M r T a P kp S tt g z) (h : spRule T k w x) (kk : ∀ N : xM, Ref N r T a P kp S tt g z → frR M N r → Q (xI x) N) : Ru (d + 100) kMo_rule 0 [xO 9 r, xI k, xI w] [] M Q := by
  have hn := hw.1.1
  obtain ⟨s0, s1⟩ := h
  refine vMo_rule_0 (qMo_isRule hw.1 hR.1 (fun k0 k1 => vMo_rule_5 ⟨fun _ => ?_, fun q => absurd (by decide) q⟩) (fun y => vMo_rule_5 ⟨fun q => absurd rfl q, fun _ => ⟨fun q => qe (kk M hR frR_r) ((s0 y).2 q).symm, fun q => qe (kk M hR frR_r) ((s0 y).1 (by omega)).symm⟩⟩))
  obtain ⟨e0, e1, e2, e3, e4, e5⟩ := s1 k0 k1
  have hr := (RN_of.mp hR.1).2.2.1 k k0 k1
  rw [z32_id (by omega) (by omega), z32_id (by omega) (by omega), z32_id (by omega) (by omega), hr.1, hr.2.1, hr.2.2]
  refine ⟨fun q => ⟨by omega, qe (kk M hR frR_r) (e0 q).symm⟩, fun q0 => ⟨fun q => ⟨by omega, qe (kk M hR frR_r) (e1 q).symm⟩, fun q1 => ⟨fun q => ⟨by omega, qe (kk M hR frR_r) (e2 q).symm⟩, fun q2 => ⟨fun q => ?_, fun q3 => ⟨fun q => ?_, fun q4 => qe (kk M hR frR_r) (e5 (by omega)).symm⟩⟩⟩⟩⟩
  · refine qMo_servedBy hw.1 hR.1 (fun N hf => vMo_rule_90 ?_)
    have hR2 : Ref N r T a P kp S tt g z := Ref_fr hw.1 hR (fun b j h => by unfold rOk at h; exact hf b j (by omega) (by omega) (by omega))
    have hF : frR M N r := fun b j h => hf b j (by omega) (by omega) (by omega)
    refine ⟨fun y => ?_, fun y => ?_⟩
    · refine qe (kk N hR2 hF) ?_
      rcases e3 q with c | c
      · exact absurd c.1 y
      · exact c.2.symm
    · refine qe (kk N hR2 hF) ?_
      rcases e3 q with c | c
      · exact c.2.symm
      · exact absurd (Classical.not_not.mp y) c.1
  · exact qMo_parentOf hw.1 hR.1 k0 k1 (fun o ho => vMo_rule_106 (qe (kk M hR frR_r) (isOut_u ho (e4 q))))
theorem bo_rule (k w : Int) : Bo kRS_rule [xO 8 0, xI k, xI w] kMo_rule [xO 9 198, xI k, xI w] xI :=
  bo_q (fun σ x => spRule σ.1 k w x) (fun _ _ _ _ _ _ _ _ _ _ _ hw hC kk => aRS_rule hw hC kk) (fun _ _ _ _ _ _ _ _ _ _ _ _ hw hR h kk => aMo_rule hw hR h kk)
/-! served -/
def spServed (T : TB) (k x : Int) : Prop := (¬ (0 ≤ k ∧ k < tN T) → x = -1) ∧ (0 ≤ k → k < tN T → x = num T k 4294967296)
theorem aRS_served {k : Int} (hw : Wf T a P kp S) (hC : Cls M s T a P kp S tt g z) (kk : ∀ (N : xM) (x : Int), spServed T k x → Cls N s T a P kp S tt g z → frC M N s → Q (xL x) N) : Ru (d + 100) kRS_served 0 [xO 8 s, xI k] [] M Q := by
  have hc := hC.1
  have hn := hw.1.1
  refine vRS_served_0 ?_
  rw [hc.1]
  refine ⟨fun y => kk M _ ⟨fun _ => rfl, fun _ _ => by omega⟩ hC frC_r, fun y => ⟨fun y2 => ?_, fun y2 => kk M _ ⟨fun _ => rfl, fun _ _ => by omega⟩ hC frC_r⟩⟩
  exact qRS_seeSpans hw hC (fun N hN hS _ hf => vRS_served_23 ⟨by omega, kk N _ ⟨fun h => absurd ⟨by omega, y2⟩ h, fun _ _ => hS.2.2.1 k (by omega) y2⟩ hN (fr_see hf)⟩)
theorem aMo_served {k x : Int} (hw : Wf T a P kp S) (hR : Ref M r T a P kp S tt g z) (h : spServed T k x) (kk : ∀ N : xM, Ref N r T a P kp S tt g z → frR M N r → Q (xL x) N) : Ru (d + 100) kMo_served 0 [xO 9 r, xI k] [] M Q := by
  refine vMo_served_0 (qMo_isRule hw.1 hR.1 (fun k0 k1 => vMo_served_5 ⟨fun q => absurd q (by decide), fun _ => ?_⟩) (fun y => vMo_served_5 ⟨fun _ => qeL (kk M hR frR_r) (h.1 y).symm, fun q => absurd rfl q⟩))
  exact qMo_servedBy hw.1 hR.1 (fun N hf => vMo_served_13 (qeL (kk N (Ref_fr hw.1 hR (fun b j h => by unfold rOk at h; exact hf b j (by omega) (by omega) (by omega))) (fun b j h => hf b j (by omega) (by omega) (by omega))) (h.2 k0 k1).symm))
theorem bo_served (k : Int) : Bo kRS_served [xO 8 0, xI k] kMo_served [xO 9 198, xI k] xL :=
  bo_q (fun σ x => spServed σ.1 k x) (fun _ _ _ _ _ _ _ _ _ _ _ hw hC kk => aRS_served hw hC kk) (fun _ _ _ _ _ _ _ _ _ _ _ _ hw hR h kk => aMo_served hw hR h kk)
/-! hop -/
def spHop (T : TB) (k w x : Int) : Prop := (¬ (0 ≤ k ∧ k < 60 ∧ 0 < tU T k) → x = -1) ∧ (0 ≤ k → k < 60 → 0 < tU T k → (w = 0 → x = idiv (tY T k) 10) ∧ (w = 1 → x = irem (tY T k) 10) ∧ (w = 2 → x = tU T k) ∧ (¬ (0 ≤ w ∧ w ≤ 2) → x = -1))
theorem aRS_hop {k w : Int} (hw : Wf T a P kp S) (hC : Cls M s T a P kp S tt g z) (kk : ∀ (N : xM) (x : Int), spHop T k w x → Cls N s T a P kp S tt g z → frC M N s → Q (xI x) N) : Ru (d + 100) kRS_hop 0 [xO 8 s, xI k, xI w] [] M Q := by
  have hc := hC.1
  refine vRS_hop_0 (qTable_hasHop hc (fun k0 k1 k2 => vRS_hop_8 ⟨fun _ => ?_, fun q => absurd (by decide) q⟩) (fun y => vRS_hop_8 ⟨fun q => absurd rfl q, fun _ => kk M _ ⟨fun _ => rfl, fun a b c => absurd ⟨a, b, c⟩ y⟩ hC frC_r⟩))
  have hu := hc.2.2.1 k k0 k1
  rw [hu.1, hu.2 k2]
  have nb : ∀ {x : Int}, ¬ (0 ≤ k ∧ k < 60 ∧ 0 < tU T k) → x = -1 := fun h => absurd ⟨k0, k1, k2⟩ h
  exact ⟨fun q => ⟨by omega, by decide, kk M _ ⟨nb, fun _ _ _ => ⟨fun _ => rfl, by omega, by omega, by omega⟩⟩ hC frC_r⟩, fun q0 => ⟨fun q => ⟨by omega, by decide, kk M _ ⟨nb, fun _ _ _ => ⟨by omega, fun _ => rfl, by omega, by omega⟩⟩ hC frC_r⟩, fun q1 => ⟨fun q => ⟨by omega, kk M _ ⟨nb, fun _ _ _ => ⟨by omega, by omega, fun _ => rfl, by omega⟩⟩ hC frC_r⟩, fun q2 => kk M _ ⟨nb, fun _ _ _ => ⟨by omega, by omega, by omega, fun _ => rfl⟩⟩ hC frC_r⟩⟩⟩
theorem tK_y {k : Int} (k0 : 0 ≤ k) (k1 : k < 60) (k2 : 0 < tU T k) : tK T k = tY T k := if_pos ⟨k0, k1, k2⟩
theorem aMo_hop {k w x : Int} (hw : Wf T a P kp S) (hR : Ref M r T a P kp S tt g z) (h : spHop T k w x) (kk : ∀ N : xM, Ref N r T a P kp S tt g z → frR M N r → Q (xI x) N) : Ru (d + 100) kMo_hop 0 [xO 9 r, xI k, xI w] [] M Q := by
  have hN := RN_of.mp hR.1
  refine vMo_hop_0 (qMo_isHop hw.1 hR.1 (fun k0 k1 k2 => vMo_hop_5 ⟨fun _ => ?_, fun q => absurd (by decide) q⟩) (fun y => vMo_hop_5 ⟨fun q => absurd rfl q, fun _ => qe (kk M hR frR_r) (h.1 y).symm⟩))
  obtain ⟨e0, e1, e2, e3⟩ := h.2 k0 k1 k2
  rw [z32_id (by omega) (by omega), hN.2.2.2.1 k k0 (by omega), tK_y k0 k1 k2]
  refine ⟨fun q => ⟨by omega, by decide, qe (kk M hR frR_r) (e0 q).symm⟩, fun q0 => ⟨fun q => ⟨by omega, by decide, qe (kk M hR frR_r) (e1 q).symm⟩, fun q1 => ⟨fun q => ?_, fun q2 => qe (kk M hR frR_r) (e3 (by omega)).symm⟩⟩⟩
  exact qMo_rulesOf hw.1.1 hN.1 (fun k k0 k1 => (hN.2.2.1 k k0 k1).2.2) (vMo_hop_69 (qe (kk M hR frR_r) (e2 q).symm))
theorem bo_hop (k w : Int) : Bo kRS_hop [xO 8 0, xI k, xI w] kMo_hop [xO 9 198, xI k, xI w] xI :=
  bo_q (fun σ x => spHop σ.1 k w x) (fun _ _ _ _ _ _ _ _ _ _ _ hw hC kk => aRS_hop hw hC kk) (fun _ _ _ _ _ _ _ _ _ _ _ _ hw hR h kk => aMo_hop hw hR h kk)
end Asks

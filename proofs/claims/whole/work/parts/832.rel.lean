/-! BOTH STATES, and how they hold on. -/
def kb (kp i : Int) : Int := if i = 0 then kp % 2 else kp / 2
def Wf (T : TB) (a : Int) (P : Int → TB) (kp : Int) (S : Int → TB) : Prop := tWF T ∧ (0 ≤ a ∧ a ≤ 10) ∧ (∀ i : Int, 0 ≤ i → i < a → tWF (P i)) ∧ (0 ≤ kp ∧ kp ≤ 3) ∧ ∀ i : Int, 0 ≤ i → i < 2 → kb kp i = 1 → tWF (S i)
/-- the reference's state -/
def Ref (M : xM) (r : Int) (T : TB) (a : Int) (P : Int → TB) (kp : Int) (S : Int → TB) (tt : Int) (g : Int → Int) (z : Int) : Prop := RT M (r + 1) 0 T ∧ RL M r T ∧ (M r 19 = 0 ∨ (M r 19 = 1 ∧ isKind T (M (r + 15)) (M (r + 14)) (M (r + 26)))) ∧ (M r 2 = a ∧ ∀ i : Int, 0 ≤ i → i < a → RT M (r + 2) (259 * i) (P i)) ∧ (∀ i : Int, 0 ≤ i → i < 2 → M (r + 4) i = kb kp i ∧ (kb kp i = 1 → RT M (r + 3) (259 * i) (S i))) ∧ M r 5 = tt ∧ RG M r g z
/-- what the class has worked out -/
def KN (M : xM) (s : Int) (T : TB) : Prop := (0 ≤ M s 8 ∧ M s 8 < 32) ∧ (M s 8 % 2 = 1 → SP M (s + 19) T) ∧ (M s 8 / 2 % 2 = 1 → NT M (s + 35) T) ∧ (M s 8 / 4 % 2 = 1 → M s 8 / 2 % 2 = 1 ∧ isKind T (M (s + 35 + 12)) (M (s + 35 + 1)) (M (s + 65 + 1))) ∧ (M s 8 / 8 % 2 = 1 → FW M (s + 69) T) ∧ (M s 8 / 16 % 2 = 1 → ∃ (m : Int) (F K : Int → Int), (isRows T m F K ∧ m ≤ 121) ∧ CS M (s + 75) (nA F m))
def fixd (M : xM) (s : Int) : Prop := (M (s + 35 + 12) 0 = 0 ∧ M (s + 35 + 13) 0 = 0 ∧ M (s + 50 + 12) 0 = 0 ∧ M (s + 50 + 13) 0 = 0) ∧ ∀ j : Int, 0 ≤ j → j ≤ 32 → M (s + 75 + 2) j = s + 75 + 3 + j
/-- where the class has its tables ahead of acts -/
def prm (M : xM) (s : Int) : Prop := (∀ i : Int, 0 ≤ i → i < 10 → ∃ j : Int, (0 ≤ j ∧ j < 10) ∧ M (s + 17) i = s + 114 + 7 * j) ∧ ∀ i j : Int, 0 ≤ i → i < j → j < 10 → ¬ M (s + 17) i = M (s + 17) j
/-- the class's state -/
def Cls (M : xM) (s : Int) (T : TB) (a : Int) (P : Int → TB) (kp : Int) (S : Int → TB) (tt : Int) (g : Int → Int) (z : Int) : Prop := CT M (s + 3) T ∧ (M s 5 = a ∧ prm M s ∧ ∀ i : Int, 0 ≤ i → i < a → CT M (M (s + 17) i) (P i)) ∧ ((M s 6 = kp ∧ M (s + 18) 0 = s + 184 ∧ M (s + 18) 1 = s + 191) ∧ ∀ i : Int, 0 ≤ i → i < 2 → kb kp i = 1 → CT M (s + 184 + 7 * i) (S i)) ∧ (0 ≤ tt ∧ (M s 7 = tt ∨ (M s 7 = -1 ∧ 0 < a ∧ isTd T (P (a - 1)) tt))) ∧ KN M s T ∧ TG M (s + 1) g z ∧ fixd M s
section Frames
variable {M N : xM} {s r : Int} {T : TB} {a : Int} {P : Int → TB} {kp : Int} {S : Int → TB} {tt : Int} {g : Int → Int} {z : Int}
theorem RT_fr {c o : Int} (h : RT M c o T) (e : ∀ j : Int, N c j = M c j) : RT N c o T := by
  have e1 : N c = M c := funext e
  unfold RT at h ⊢
  rw [e1]
  exact h
/-- what may change of the reference without harm -/
def rOk (r b j : Int) : Prop := (r + 1 ≤ b ∧ b ≤ r + 4) ∨ (b = r + 5 ∧ j = 0) ∨ ((b = r + 6 ∨ b = r + 7) ∧ j < 124) ∨ (b = r + 8 ∧ j = 0) ∨ (b = r + 9 ∧ j < 16) ∨ (b = r + 10 ∧ j < 17) ∨ (r + 13 ≤ b ∧ b ≤ r + 15) ∨ b = r + 22 ∨ b = r + 26 ∨ (b = r ∧ (j = 2 ∨ j = 5 ∨ j = 15 ∨ j = 19 ∨ j = 35))
theorem RL_fr2 (hw : tWF T) (h : RL M r T) (e : ∀ b j : Int, rOk r b j → N b j = M b j) : RL N r T := by
  have hz := hw.2.2.2.2.2.1
  have h121 := h.1.2.1
  have e5 : N (r + 5) 0 = M (r + 5) 0 := e _ _ (Or.inr (Or.inl ⟨rfl, rfl⟩))
  have e6 : ∀ j : Int, j < 124 → N (r + 6) j = M (r + 6) j := fun j hj => e _ _ (Or.inr (Or.inr (Or.inl ⟨Or.inl rfl, hj⟩)))
  have e7 : ∀ j : Int, j < 124 → N (r + 7) j = M (r + 7) j := fun j hj => e _ _ (Or.inr (Or.inr (Or.inl ⟨Or.inr rfl, hj⟩)))
  have e13 : N (r + 13) = M (r + 13) := funext fun j => e _ _ (by unfold rOk; omega)
  have e14 : N (r + 14) = M (r + 14) := funext fun j => e _ _ (by unfold rOk; omega)
  have e15 : N (r + 15) = M (r + 15) := funext fun j => e _ _ (by unfold rOk; omega)
  have er : N r 15 = M r 15 := e _ _ (by unfold rOk; omega)
  obtain ⟨⟨r1, r2, r3, r4, r5⟩, hn⟩ := h
  have hr := r1
  -- rows
  have hrow : isRows T (N (r + 5) 0) (N (r + 6)) (N (r + 7)) := by
    have h0 := RW_0 ⟨r1, r2, r3, r4, r5⟩
    rw [e5]
    have nx : ∀ i : Int, 0 ≤ i → i < M (r + 5) 0 → nxF (N (r + 6)) (M (r + 5) 0) i = nxF (M (r + 6)) (M (r + 5) 0) i := fun i i0 i1 => by
      by_cases q : i + 1 < M (r + 5) 0
      · rw [nxF_in q, nxF_in q, e6 _ (by omega)]
      · rw [nxF_end q, nxF_end q]
    refine ⟨h0.1, by rw [e6 0 (by decide)]; exact h0.2.1, fun i i0 i1 => by rw [nx i i0 i1, e6 i (by omega)]; exact h0.2.2.1 i i0 i1, fun i i0 i1 x x0 x1 => ?_, fun i i0 i1 => by rw [e7 i (by omega), e7 (i + 1) (by omega)]; exact h0.2.2.2.2 i i0 i1⟩
    rw [e6 i (by omega)] at x0
    rw [nx i i0 i1] at x1
    rw [e7 i (by omega)]
    exact h0.2.2.2.1 i i0 i1 x x0 x1
  have e6' : (fun i => N (r + 6) (124 * 0 + i)) = N (r + 6) := funext fun i => by rw [show (124 : Int) * 0 + i = i by omega]
  have e7' : (fun i => N (r + 7) (124 * 0 + i)) = N (r + 7) := funext fun i => by rw [show (124 : Int) * 0 + i = i by omega]
  refine ⟨⟨by rw [e6', e7']; exact hrow, by rw [e5]; exact r2, by rw [e _ _ (by unfold rOk; omega)]; exact r3, fun l l0 l1 => by rw [e _ _ (by unfold rOk; omega)]; exact r4 l l0 l1, fun l l0 l1 => by rw [e _ _ (by unfold rOk; omega)]; exact r5 l l0 l1⟩, ?_⟩
  obtain ⟨n1, n2, n3, n4, n5, n6, n7⟩ := hn
  unfold NS
  rw [e13, e14, e15, er, e5]
  refine ⟨n1, n2, n3, n4, n5, fun l l0 l1 => ⟨seqS_S (n6 l l0 l1).1 (fun x => ?_), (n6 l l0 l1).2⟩, n7⟩
  unfold ND
  constructor
  · rintro ⟨x1, k, k0, k1, k2, k3⟩
    exact ⟨x1, k, k0, k1, by rw [e6 k (by omega)]; exact k2, by rw [e6 k (by omega)]; exact k3⟩
  · rintro ⟨x1, k, k0, k1, k2, k3⟩
    rw [e6 k (by omega)] at k2 k3
    exact ⟨x1, k, k0, k1, k2, k3⟩
theorem Ref_fr (hw : tWF T) (h : Ref M r T a P kp S tt g z) (e : ∀ b j : Int, rOk r b j → N b j = M b j) : Ref N r T a P kp S tt g z := by
  obtain ⟨h1, h2, h3, h4, h5, h6, h7⟩ := h
  have e14 : N (r + 14) = M (r + 14) := funext fun j => e _ _ (by unfold rOk; omega)
  have e15 : N (r + 15) = M (r + 15) := funext fun j => e _ _ (by unfold rOk; omega)
  have e26 : N (r + 26) = M (r + 26) := funext fun j => e _ _ (by unfold rOk; omega)
  refine ⟨RT_fr h1 (fun j => e _ _ (by unfold rOk; omega)), RL_fr2 hw h2 e, ?_, ⟨by rw [e _ _ (by unfold rOk; omega)]; exact h4.1, fun i i0 i1 => RT_fr (h4.2 i i0 i1) (fun j => e _ _ (by unfold rOk; omega))⟩, fun i i0 i1 => ⟨by rw [e _ _ (by unfold rOk; omega)]; exact (h5 i i0 i1).1, fun q => RT_fr ((h5 i i0 i1).2 q) (fun j => e _ _ (by unfold rOk; omega))⟩, by rw [e _ _ (by unfold rOk; omega)]; exact h6, RG_fr h7 (e _ _ (by unfold rOk; omega)) (fun j => e _ _ (by unfold rOk; omega))⟩
  rw [e14, e15, e26, e _ _ (by unfold rOk; omega)]
  exact h3
theorem SP_fr {p : Int} (h : SP M p T) (e : ∀ b j : Int, p ≤ b → b ≤ p + 7 → N b j = M b j) : SP N p T := ⟨SE_fr h.1 (e _ _ (by omega) (by omega)) (e _ _ (by omega) (by omega)) (fun b j b0 b1 => e b j (by omega) (by omega)), by rw [e _ _ (by omega) (by omega)]; exact h.2.1, fun j j0 j1 => by rw [e _ _ (by omega) (by omega)]; exact h.2.2.1 j j0 j1, fun j j0 j1 => by rw [e _ _ (by omega) (by omega)]; exact h.2.2.2 j j0 j1⟩
theorem FW_fr {p : Int} (h : FW M p T) (e : ∀ b j : Int, p ≤ b → b ≤ p + 5 → N b j = M b j) : FW N p T := ⟨by rw [e _ _ (by omega) (by omega)]; exact h.1, arrL_fr _ _ h.2 (fun j _ _ => ⟨e _ _ (by omega) (by omega), e _ _ (by omega) (by omega), e _ _ (by omega) (by omega)⟩)⟩
theorem CS_fr {p : Int} {c : Int → Int} (h : CS M p c) (e : ∀ b j : Int, p ≤ b → b ≤ p + 35 → N b j = M b j) : CS N p c := ⟨fun j j0 j1 => by rw [e _ _ (by omega) (by omega)]; exact h.1 j j0 j1, fun b b0 b1 => by rw [e _ _ (by omega) (by omega)]; exact h.2.1 b b0 b1, fun b l b0 b1 l0 l1 => by rw [e _ _ (by omega) (by omega)]; exact h.2.2 b l b0 b1 l0 l1⟩
/-- caches may change -/
theorem Cls_k (hw : Wf T a P kp S) (h : Cls M s T a P kp S tt g z) (e : ∀ b j : Int, ¬ (b = s ∧ j = 8) → ¬ (s + 10 ≤ b ∧ b ≤ s + 16) → ¬ (s + 19 ≤ b ∧ b ≤ s + 113) → N b j = M b j) (et : ¬ (s + 1 = s)) (hk : KN N s T) (hf : fixd N s) : Cls N s T a P kp S tt g z := by
  obtain ⟨h1, ⟨h2, ⟨p1, p2⟩, h3⟩, ⟨⟨h4, h4', h4''⟩, h5⟩, h6, h7, h8, h9⟩ := h
  have e17 : ∀ j : Int, N (s + 17) j = M (s + 17) j := fun j => e _ _ (by omega) (by omega) (by omega)
  refine ⟨CT_fr h1 (fun b j b0 b1 => e b j (by omega) (by omega) (by omega)), ⟨by rw [e _ _ (by omega) (by omega) (by omega)]; exact h2, ⟨fun i i0 i1 => by rw [e17]; exact p1 i i0 i1, fun i j i0 ij j1 => by rw [e17, e17]; exact p2 i j i0 ij j1⟩, fun i i0 i1 => ?_⟩, ⟨⟨by rw [e _ _ (by omega) (by omega) (by omega)]; exact h4, by rw [e _ _ (by omega) (by omega) (by omega)]; exact h4', by rw [e _ _ (by omega) (by omega) (by omega)]; exact h4''⟩, fun i i0 i1 q => CT_fr (h5 i i0 i1 q) (fun b j b0 b1 => e b j (by omega) (by omega) (by omega))⟩, ?_, hk, TG_fr h8 (e _ _ (by omega) (by omega) (by omega)) (fun j => e _ _ (by omega) (by omega) (by omega)), hf⟩
  · rw [e17]
    obtain ⟨j, j0, j1⟩ := p1 i i0 (by have := hw.2.1; omega)
    exact CT_fr (h3 i i0 i1) (fun b j b0 b1 => e b j (by omega) (by omega) (by omega))
  · rw [e _ _ (by omega) (by omega) (by omega)]
    exact h6
theorem bits32 : ∀ n : Fin 32, (iand (n.val : Int) 1 = (n.val : Int) % 2 ∧ iand (n.val : Int) 2 = 2 * ((n.val : Int) / 2 % 2) ∧ iand (n.val : Int) 4 = 4 * ((n.val : Int) / 4 % 2) ∧ iand (n.val : Int) 8 = 8 * ((n.val : Int) / 8 % 2) ∧ iand (n.val : Int) 16 = 16 * ((n.val : Int) / 16 % 2)) ∧ (ior (n.val : Int) 1 = (n.val : Int) + (1 - (n.val : Int) % 2) ∧ ior (n.val : Int) 2 = (n.val : Int) + 2 * (1 - (n.val : Int) / 2 % 2) ∧ ior (n.val : Int) 4 = (n.val : Int) + 4 * (1 - (n.val : Int) / 4 % 2) ∧ ior (n.val : Int) 8 = (n.val : Int) + 8 * (1 - (n.val : Int) / 8 % 2) ∧ ior (n.val : Int) 16 = (n.val : Int) + 16 * (1 - (n.val : Int) / 16 % 2)) := by decide
theorem bits5 {x : Int} (x0 : 0 ≤ x) (x1 : x < 32) : (iand x 1 = x % 2 ∧ iand x 2 = 2 * (x / 2 % 2) ∧ iand x 4 = 4 * (x / 4 % 2) ∧ iand x 8 = 8 * (x / 8 % 2) ∧ iand x 16 = 16 * (x / 16 % 2)) ∧ (ior x 1 = x + (1 - x % 2) ∧ ior x 2 = x + 2 * (1 - x / 2 % 2) ∧ ior x 4 = x + 4 * (1 - x / 4 % 2) ∧ ior x 8 = x + 8 * (1 - x / 8 % 2) ∧ ior x 16 = x + 16 * (1 - x / 16 % 2)) := by
  obtain ⟨n, rfl⟩ := nat_of x0
  exact bits32 ⟨n, by omega⟩
end Frames
section Sees
variable {d : Nat} {M : xM} {Q : xQ} {s : Int} {T : TB} {a : Int} {P : Int → TB} {kp : Int} {S : Int → TB} {tt : Int} {g : Int → Int} {z : Int}
theorem NT_fix {p : Int} {N : xM} (hw : tWF T) (h : NT N p T) : N (p + 12) 0 = 0 ∧ N (p + 13) 0 = 0 := ⟨h.2.1.1, h.1.2.2 0 (Int.le_refl _) (by have := hw.2.2.2.2.2.1; omega)⟩
theorem qRS_seeSpans (hw : Wf T a P kp S) (hC : Cls M s T a P kp S tt g z) (k : ∀ N : xM, Cls N s T a P kp S tt g z → SP N (s + 19) T → N s 8 / 2 = M s 8 / 2 → (∀ b j : Int, ¬ (b = s ∧ j = 8) → ¬ (s + 19 ≤ b ∧ b ≤ s + 26) → N b j = M b j) → Q xU N) : Ru (d + 3) kRS_seeSpans 0 [xO 8 s] [] M Q := by
  obtain ⟨x0, k1, k2, k3, k4, k5⟩ := hC.2.2.2.2.1
  have hb := bits5 x0.1 x0.2
  have hfx := hC.2.2.2.2.2.2
  refine vRS_seeSpans_0 ?_
  rw [hb.1.1]
  refine ⟨fun y => k M hC (k1 (by omega)) rfl (fun _ _ _ _ => rfl), fun y => ?_⟩
  refine qSpans_survey hw.1 hC.1 (by omega) (fun N hS hf => vRS_seeSpans_20 ?_)
  have e8 : N s 8 = M s 8 := hf _ _ (by omega)
  rw [e8, hb.2.1, show M s 8 % 2 = 0 by omega]
  have hf2 : ∀ b j : Int, ¬ (b = s ∧ j = 8) → ¬ (s + 19 ≤ b ∧ b ≤ s + 26) → up N s 8 (M s 8 + (1 - 0)) b j = M b j := fun b j h1 h2 => by rw [up_un (by omega)]; exact hf b j (by omega)
  have hSP : SP (up N s 8 (M s 8 + (1 - 0))) (s + 19) T := SP_fr hS (fun b j b0 b1 => up_un (by omega))
  have e35 : up N s 8 (M s 8 + (1 - 0)) (s + 35 + 12) = M (s + 35 + 12) := funext fun j => hf2 _ _ (by omega) (by omega)
  have e36 : up N s 8 (M s 8 + (1 - 0)) (s + 35 + 1) = M (s + 35 + 1) := funext fun j => hf2 _ _ (by omega) (by omega)
  have e66 : up N s 8 (M s 8 + (1 - 0)) (s + 65 + 1) = M (s + 65 + 1) := funext fun j => hf2 _ _ (by omega) (by omega)
  refine k _ (Cls_k hw hC (fun b j h1 h2 h3 => hf2 b j h1 (by omega)) (by omega) ?_ ?_) hSP (by rw [up_same]; omega) hf2
  · refine ⟨by rw [up_same]; omega, fun _ => hSP, ?_, ?_, ?_, ?_⟩
    · rw [up_same]
      exact fun q => NT_fr (k2 (by omega)) (fun b j b0 b1 _ _ => hf2 b j (by omega) (by omega))
    · rw [up_same, e35, e36, e66]
      exact fun q => ⟨by have := (k3 (by omega)).1; omega, (k3 (by omega)).2⟩
    · rw [up_same]
      exact fun q => FW_fr (k4 (by omega)) (fun b j b0 b1 => hf2 b j (by omega) (by omega))
    · rw [up_same]
      intro q
      obtain ⟨m, F, K, q1, q2⟩ := k5 (by omega)
      exact ⟨m, F, K, q1, CS_fr q2 (fun b j b0 b1 => hf2 b j (by omega) (by omega))⟩
  · refine ⟨⟨?_, ?_, ?_, ?_⟩, fun j j0 j1 => ?_⟩
    · rw [hf2 _ _ (by omega) (by omega)]; exact hfx.1.1
    · rw [hf2 _ _ (by omega) (by omega)]; exact hfx.1.2.1
    · rw [hf2 _ _ (by omega) (by omega)]; exact hfx.1.2.2.1
    · rw [hf2 _ _ (by omega) (by omega)]; exact hfx.1.2.2.2
    · rw [hf2 _ _ (by omega) (by omega)]; exact hfx.2 j j0 j1
theorem qRS_seeNodes (hw : Wf T a P kp S) (hC : Cls M s T a P kp S tt g z) (k : ∀ N : xM, Cls N s T a P kp S tt g z → NT N (s + 35) T → (N s 8 / 4 = M s 8 / 4 ∧ N s 8 / 2 % 2 = 1) → (∀ b j : Int, ¬ (b = s ∧ j = 8) → ¬ (s + 19 ≤ b ∧ b ≤ s + 26) → ¬ (s + 35 ≤ b ∧ b ≤ s + 49) → N b j = M b j) → Q xU N) : Ru (d + 4) kRS_seeNodes 0 [xO 8 s] [] M Q := by
  obtain ⟨x0, k1, k2, k3, k4, k5⟩ := hC.2.2.2.2.1
  have hb := bits5 x0.1 x0.2
  refine vRS_seeNodes_0 ?_
  rw [hb.1.2.1]
  refine ⟨fun y => k M hC (k2 (by omega)) ⟨rfl, by omega⟩ (fun _ _ _ _ _ => rfl), fun y => ?_⟩
  refine qRS_seeSpans hw hC (fun N1 hC1 hS1 e1 hf1 => vRS_seeNodes_13 ?_)
  obtain ⟨y0, c1, c2, c3, c4, c5⟩ := hC1.2.2.2.2.1
  have hb1 := bits5 y0.1 y0.2
  have hfx := hC1.2.2.2.2.2.2
  refine qNodes_build hw.1 hC1.1 (SP_SR hw.1 hS1) (by omega) (by omega) hfx.1.1 hfx.1.2.1 (fun N hN hf => vRS_seeNodes_28 ?_)
  have e8 : N s 8 = N1 s 8 := hf _ _ (by omega)
  rw [e8, hb1.2.2.1, show N1 s 8 / 2 % 2 = 0 by omega]
  have hf2 : ∀ b j : Int, ¬ (b = s ∧ j = 8) → ¬ (s + 35 ≤ b ∧ b ≤ s + 49) → up N s 8 (N1 s 8 + 2 * (1 - 0)) b j = N1 b j := fun b j h1 h2 => by rw [up_un (by omega)]; exact hf b j (by omega)
  have hNT : NT (up N s 8 (N1 s 8 + 2 * (1 - 0))) (s + 35) T := NT_fr hN (fun b j b0 b1 _ _ => up_un (by omega))
  have hfix := NT_fix hw.1 hNT
  refine k _ (Cls_k hw hC1 (fun b j h1 h2 h3 => hf2 b j h1 (by omega)) (by omega) ?_ ?_) hNT (by rw [up_same]; omega) (fun b j h1 h2 h3 => by rw [hf2 b j h1 h3]; exact hf1 b j h1 h2)
  · refine ⟨by rw [up_same]; omega, fun _ => SP_fr hS1 (fun b j b0 b1 => hf2 b j (by omega) (by omega)), fun _ => hNT, ?_, ?_, ?_⟩
    · rw [up_same]
      intro q
      have q4 : M s 8 / 4 % 2 = 1 := by omega
      have := (k3 q4).1
      omega
    · rw [up_same]
      exact fun q => FW_fr (c4 (by omega)) (fun b j b0 b1 => hf2 b j (by omega) (by omega))
    · rw [up_same]
      intro q
      obtain ⟨m, F, K, q1, q2⟩ := c5 (by omega)
      exact ⟨m, F, K, q1, CS_fr q2 (fun b j b0 b1 => hf2 b j (by omega) (by omega))⟩
  · refine ⟨⟨hfix.1, hfix.2, ?_, ?_⟩, fun j j0 j1 => ?_⟩
    · rw [hf2 _ _ (by omega) (by omega)]; exact hfx.1.2.2.1
    · rw [hf2 _ _ (by omega) (by omega)]; exact hfx.1.2.2.2
    · rw [hf2 _ _ (by omega) (by omega)]; exact hfx.2 j j0 j1
theorem qRS_seeKinds (hw : Wf T a P kp S) (hC : Cls M s T a P kp S tt g z) (k : ∀ N : xM, Cls N s T a P kp S tt g z → NT N (s + 35) T → isKind T (N (s + 35 + 12)) (N (s + 35 + 1)) (N (s + 65 + 1)) → (∀ b j : Int, ¬ (b = s ∧ j = 8) → ¬ (s + 19 ≤ b ∧ b ≤ s + 26) → ¬ (s + 35 ≤ b ∧ b ≤ s + 49) → ¬ (s + 65 ≤ b ∧ b ≤ s + 68) → N b j = M b j) → Q xU N) : Ru (d + 5) kRS_seeKinds 0 [xO 8 s] [] M Q := by
  obtain ⟨x0, k1, k2, k3, k4, k5⟩ := hC.2.2.2.2.1
  have hb := bits5 x0.1 x0.2
  refine vRS_seeKinds_0 ?_
  rw [hb.1.2.2.1]
  refine ⟨fun y => k M hC (k2 (k3 (by omega)).1) (k3 (by omega)).2 (fun _ _ _ _ _ _ => rfl), fun y => ?_⟩
  refine qRS_seeNodes hw hC (fun N1 hC1 hN1 e1 hf1 => vRS_seeKinds_13 ?_)
  obtain ⟨y0, c1, c2, c3, c4, c5⟩ := hC1.2.2.2.2.1
  have hb1 := bits5 y0.1 y0.2
  have hfx := hC1.2.2.2.2.2.2
  refine qKinds_find hw.1 hN1 (by omega) (fun N hK hf => vRS_seeKinds_24 ?_)
  have e8 : N s 8 = N1 s 8 := hf _ _ (by omega)
  rw [e8, hb1.2.2.2.1, show N1 s 8 / 4 % 2 = 0 by omega]
  have hf2 : ∀ b j : Int, ¬ (b = s ∧ j = 8) → ¬ (s + 65 ≤ b ∧ b ≤ s + 68) → up N s 8 (N1 s 8 + 4 * (1 - 0)) b j = N1 b j := fun b j h1 h2 => by rw [up_un (by omega)]; exact hf b j (by omega)
  have hNT : NT (up N s 8 (N1 s 8 + 4 * (1 - 0))) (s + 35) T := NT_fr hN1 (fun b j b0 b1 _ _ => hf2 b j (by omega) (by omega))
  have e35 : up N s 8 (N1 s 8 + 4 * (1 - 0)) (s + 35 + 12) = N1 (s + 35 + 12) := funext fun j => hf2 _ _ (by omega) (by omega)
  have e36 : up N s 8 (N1 s 8 + 4 * (1 - 0)) (s + 35 + 1) = N1 (s + 35 + 1) := funext fun j => hf2 _ _ (by omega) (by omega)
  have e66 : up N s 8 (N1 s 8 + 4 * (1 - 0)) (s + 65 + 1) = N (s + 65 + 1) := funext fun j => up_un (by omega)
  have hKd : isKind T (up N s 8 (N1 s 8 + 4 * (1 - 0)) (s + 35 + 12)) (up N s 8 (N1 s 8 + 4 * (1 - 0)) (s + 35 + 1)) (up N s 8 (N1 s 8 + 4 * (1 - 0)) (s + 65 + 1)) := by rw [e35, e36, e66]; exact hK
  -- nodes are known now
  refine k _ (Cls_k hw hC1 (fun b j h1 h2 h3 => hf2 b j h1 (by omega)) (by omega) ?_ ?_) hNT hKd (fun b j h1 h2 h3 h4 => by rw [hf2 b j h1 h4]; exact hf1 b j h1 h2 h3)
  · refine ⟨by rw [up_same]; omega, ?_, fun _ => hNT, ?_, ?_, ?_⟩
    · rw [up_same]
      exact fun q => SP_fr (c1 (by omega)) (fun b j b0 b1 => hf2 b j (by omega) (by omega))
    · rw [up_same]
      exact fun q => ⟨by omega, by rw [e35, e36, e66]; exact hK⟩
    · rw [up_same]
      exact fun q => FW_fr (c4 (by omega)) (fun b j b0 b1 => hf2 b j (by omega) (by omega))
    · rw [up_same]
      intro q
      obtain ⟨m, F, K, q1, q2⟩ := c5 (by omega)
      exact ⟨m, F, K, q1, CS_fr q2 (fun b j b0 b1 => hf2 b j (by omega) (by omega))⟩
  · refine ⟨⟨?_, ?_, ?_, ?_⟩, fun j j0 j1 => ?_⟩
    · rw [hf2 _ _ (by omega) (by omega)]; exact hfx.1.1
    · rw [hf2 _ _ (by omega) (by omega)]; exact hfx.1.2.1
    · rw [hf2 _ _ (by omega) (by omega)]; exact hfx.1.2.2.1
    · rw [hf2 _ _ (by omega) (by omega)]; exact hfx.1.2.2.2
    · rw [hf2 _ _ (by omega) (by omega)]; exact hfx.2 j j0 j1
theorem qRS_seeFewest (hw : Wf T a P kp S) (hC : Cls M s T a P kp S tt g z) (k : ∀ N : xM, Cls N s T a P kp S tt g z → FW N (s + 69) T → (∀ b j : Int, ¬ (b = s ∧ j = 8) → ¬ (s + 19 ≤ b ∧ b ≤ s + 26) → ¬ (s + 69 ≤ b ∧ b ≤ s + 74) → N b j = M b j) → Q xU N) : Ru (d + 36) kRS_seeFewest 0 [xO 8 s] [] M Q := by
  obtain ⟨x0, k1, k2, k3, k4, k5⟩ := hC.2.2.2.2.1
  have hb := bits5 x0.1 x0.2
  refine vRS_seeFewest_0 ?_
  rw [hb.1.2.2.2.1]
  refine ⟨fun y => k M hC (k4 (by omega)) (fun _ _ _ _ _ => rfl), fun y => ?_⟩
  refine qRS_seeSpans hw hC (fun N1 hC1 hS1 e1 hf1 => vRS_seeFewest_14 ?_)
  obtain ⟨y0, c1, c2, c3, c4, c5⟩ := hC1.2.2.2.2.1
  have hb1 := bits5 y0.1 y0.2
  have hfx := hC1.2.2.2.2.2.2
  refine qFewest_seek hw.1 (by omega) (SP_SR hw.1 hS1) (fun N hF hf => vRS_seeFewest_25 ?_)
  have e8 : N s 8 = N1 s 8 := hf _ _ (by omega)
  rw [e8, hb1.2.2.2.2.1, show N1 s 8 / 8 % 2 = 0 by omega]
  have hf2 : ∀ b j : Int, ¬ (b = s ∧ j = 8) → ¬ (s + 69 ≤ b ∧ b ≤ s + 74) → up N s 8 (N1 s 8 + 8 * (1 - 0)) b j = N1 b j := fun b j h1 h2 => by rw [up_un (by omega)]; exact hf b j (by omega)
  have hFW : FW (up N s 8 (N1 s 8 + 8 * (1 - 0))) (s + 69) T := FW_fr hF (fun b j b0 b1 => up_un (by omega))
  have e35 : up N s 8 (N1 s 8 + 8 * (1 - 0)) (s + 35 + 12) = N1 (s + 35 + 12) := funext fun j => hf2 _ _ (by omega) (by omega)
  have e36 : up N s 8 (N1 s 8 + 8 * (1 - 0)) (s + 35 + 1) = N1 (s + 35 + 1) := funext fun j => hf2 _ _ (by omega) (by omega)
  have e66 : up N s 8 (N1 s 8 + 8 * (1 - 0)) (s + 65 + 1) = N1 (s + 65 + 1) := funext fun j => hf2 _ _ (by omega) (by omega)
  refine k _ (Cls_k hw hC1 (fun b j h1 h2 h3 => hf2 b j h1 (by omega)) (by omega) ?_ ?_) hFW (fun b j h1 h2 h3 => by rw [hf2 b j h1 h3]; exact hf1 b j h1 h2)
  · refine ⟨by rw [up_same]; omega, fun _ => SP_fr hS1 (fun b j b0 b1 => hf2 b j (by omega) (by omega)), ?_, ?_, fun _ => hFW, ?_⟩
    · rw [up_same]
      exact fun q => NT_fr (c2 (by omega)) (fun b j b0 b1 _ _ => hf2 b j (by omega) (by omega))
    · rw [up_same, e35, e36, e66]
      exact fun q => ⟨by have := (c3 (by omega)).1; omega, (c3 (by omega)).2⟩
    · rw [up_same]
      intro q
      obtain ⟨m, F, K, q1, q2⟩ := c5 (by omega)
      exact ⟨m, F, K, q1, CS_fr q2 (fun b j b0 b1 => hf2 b j (by omega) (by omega))⟩
  · refine ⟨⟨?_, ?_, ?_, ?_⟩, fun j j0 j1 => ?_⟩
    · rw [hf2 _ _ (by omega) (by omega)]; exact hfx.1.1
    · rw [hf2 _ _ (by omega) (by omega)]; exact hfx.1.2.1
    · rw [hf2 _ _ (by omega) (by omega)]; exact hfx.1.2.2.1
    · rw [hf2 _ _ (by omega) (by omega)]; exact hfx.1.2.2.2
    · rw [hf2 _ _ (by omega) (by omega)]; exact hfx.2 j j0 j1
theorem qRS_seeCosts (hw : Wf T a P kp S) (hC : Cls M s T a P kp S tt g z) (k : ∀ (N : xM) (m : Int) (F K : Int → Int), Cls N s T a P kp S tt g z → (isRows T m F K ∧ m ≤ 121) → CS N (s + 75) (nA F m) → (∀ b j : Int, ¬ (b = s ∧ j = 8) → ¬ (s + 19 ≤ b ∧ b ≤ s + 26) → ¬ (s + 75 ≤ b ∧ b ≤ s + 110) → N b j = M b j) → Q xU N) : Ru (d + 4) kRS_seeCosts 0 [xO 8 s] [] M Q := by
  obtain ⟨x0, k1, k2, k3, k4, k5⟩ := hC.2.2.2.2.1
  have hb := bits5 x0.1 x0.2
  refine vRS_seeCosts_0 ?_
  rw [hb.1.2.2.2.2]
  refine ⟨fun y => ?_, fun y => ?_⟩
  · obtain ⟨m, F, K, q1, q2⟩ := k5 (by omega)
    exact k M m F K hC q1 q2 (fun _ _ _ _ _ => rfl)
  refine qRS_seeSpans hw hC (fun N1 hC1 hS1 e1 hf1 => vRS_seeCosts_14 ?_)
  obtain ⟨y0, c1, c2, c3, c4, c5⟩ := hC1.2.2.2.2.1
  have hb1 := bits5 y0.1 y0.2
  have hfx := hC1.2.2.2.2.2.2
  have hSR := SP_SR hw.1 hS1
  refine qCosts_weigh hSR hfx.2 (by omega) (fun N hCS hf => vRS_seeCosts_25 ?_)
  have e8 : N s 8 = N1 s 8 := hf _ _ (by omega)
  rw [e8, hb1.2.2.2.2.2, show N1 s 8 / 16 % 2 = 0 by omega]
  have hf2 : ∀ b j : Int, ¬ (b = s ∧ j = 8) → ¬ (b = s + 75 + 1 ∨ (s + 75 + 3 ≤ b ∧ b ≤ s + 75 + 35)) → up N s 8 (N1 s 8 + 16 * (1 - 0)) b j = N1 b j := fun b j h1 h2 => by rw [up_un (by omega)]; exact hf b j (by omega)
  have hCS2 : CS (up N s 8 (N1 s 8 + 16 * (1 - 0))) (s + 75) (nA (N1 (s + 19 + 1)) (N1 (s + 19) 0)) := CS_fr hCS (fun b j b0 b1 => up_un (by omega))
  have e35 : up N s 8 (N1 s 8 + 16 * (1 - 0)) (s + 35 + 12) = N1 (s + 35 + 12) := funext fun j => hf2 _ _ (by omega) (by omega)
  have e36 : up N s 8 (N1 s 8 + 16 * (1 - 0)) (s + 35 + 1) = N1 (s + 35 + 1) := funext fun j => hf2 _ _ (by omega) (by omega)
  have e66 : up N s 8 (N1 s 8 + 16 * (1 - 0)) (s + 65 + 1) = N1 (s + 65 + 1) := funext fun j => hf2 _ _ (by omega) (by omega)
  refine k _ _ _ _ (Cls_k hw hC1 (fun b j h1 h2 h3 => hf2 b j h1 (by omega)) (by omega) ?_ ?_) ⟨hSR.1, hSR.2.1⟩ hCS2 (fun b j h1 h2 h3 => by rw [hf2 b j h1 (by omega)]; exact hf1 b j h1 h2)
  · refine ⟨by rw [up_same]; omega, fun _ => SP_fr hS1 (fun b j b0 b1 => hf2 b j (by omega) (by omega)), ?_, ?_, ?_, fun _ => ⟨_, _, _, ⟨hSR.1, hSR.2.1⟩, hCS2⟩⟩
    · rw [up_same]
      exact fun q => NT_fr (c2 (by omega)) (fun b j b0 b1 _ _ => hf2 b j (by omega) (by omega))
    · rw [up_same, e35, e36, e66]
      exact fun q => ⟨by have := (c3 (by omega)).1; omega, (c3 (by omega)).2⟩
    · rw [up_same]
      exact fun q => FW_fr (c4 (by omega)) (fun b j b0 b1 => hf2 b j (by omega) (by omega))
  · refine ⟨⟨?_, ?_, ?_, ?_⟩, fun j j0 j1 => ?_⟩
    · rw [hf2 _ _ (by omega) (by omega)]; exact hfx.1.1
    · rw [hf2 _ _ (by omega) (by omega)]; exact hfx.1.2.1
    · rw [hf2 _ _ (by omega) (by omega)]; exact hfx.1.2.2.1
    · rw [hf2 _ _ (by omega) (by omega)]; exact hfx.1.2.2.2
    · rw [hf2 _ _ (by omega) (by omega)]; exact hfx.2 j j0 j1
theorem qRS_touchedAgainst {t : Int} {T2 : TB} (hw : Wf T a P kp S) (hw2 : tWF T2) (hC : Cls M s T a P kp S tt g z) (hN : NT M (s + 35) T) (hc : CT M t T2) (ht : (s + 10 ≤ t ∧ t + 6 < s + 19) ∨ s + 113 < t) (k : ∀ (N : xM) (x : Int), isTd T T2 x → Cls N s T a P kp S tt g z → (∀ b j : Int, ¬ (s + 27 ≤ b ∧ b ≤ s + 34) → ¬ (s + 50 ≤ b ∧ b ≤ s + 64) → N b j = M b j) → Q (xI x) N) : Ru (d + 4) kRS_touchedAgainst 0 [xO 8 s, xO 6 t] [] M Q := by
  have hfx := hC.2.2.2.2.2.2
  obtain ⟨x0, k1, k2, k3, k4, k5⟩ := hC.2.2.2.2.1
  refine vRS_touchedAgainst_0 (qSpans_survey hw2 hc (by omega) (fun N1 hS1 hf1 => vRS_touchedAgainst_8 ?_))
  have hc1 : CT N1 t T2 := CT_fr hc (fun b j b0 b1 => hf1 b j (by omega))
  refine qNodes_build hw2 hc1 (SP_SR hw2 hS1) (by omega) (by omega) (by rw [hf1 _ _ (by omega)]; exact hfx.1.2.2.1) (by rw [hf1 _ _ (by omega)]; exact hfx.1.2.2.2) (fun N2 hN2 hf2 => vRS_touchedAgainst_20 ?_)
  have hf3 : ∀ b j : Int, ¬ (s + 27 ≤ b ∧ b ≤ s + 34) → ¬ (s + 50 ≤ b ∧ b ≤ s + 64) → N2 b j = M b j := fun b j h1 h2 => by rw [hf2 b j (by omega)]; exact hf1 b j (by omega)
  have hNT : NT N2 (s + 35) T := NT_fr hN (fun b j b0 b1 _ _ => hf3 b j (by omega) (by omega))
  have hfix := NT_fix hw2 hN2
  have e35 : N2 (s + 35 + 12) = M (s + 35 + 12) := funext fun j => hf3 _ _ (by omega) (by omega)
  have e36 : N2 (s + 35 + 1) = M (s + 35 + 1) := funext fun j => hf3 _ _ (by omega) (by omega)
  have e66 : N2 (s + 65 + 1) = M (s + 65 + 1) := funext fun j => hf3 _ _ (by omega) (by omega)
  refine qNodes_othersThan hw.1 hw2 hNT hN2 (fun x hx => vRS_touchedAgainst_31 (k N2 x hx (Cls_k hw hC (fun b j h1 h2 h3 => hf3 b j (by omega) (by omega)) (by omega) ?_ ?_) hf3))
  · unfold KN
    rw [hf3 s 8 (by omega) (by omega), e35, e36, e66]
    refine ⟨x0, fun q => SP_fr (k1 q) (fun b j b0 b1 => hf3 b j (by omega) (by omega)), fun q => NT_fr (k2 q) (fun b j b0 b1 _ _ => hf3 b j (by omega) (by omega)), k3, fun q => FW_fr (k4 q) (fun b j b0 b1 => hf3 b j (by omega) (by omega)), fun q => ?_⟩
    obtain ⟨m, F, K, q1, q2⟩ := k5 q
    exact ⟨m, F, K, q1, CS_fr q2 (fun b j b0 b1 => hf3 b j (by omega) (by omega))⟩
  · refine ⟨⟨?_, ?_, hfix.1, hfix.2⟩, fun j j0 j1 => ?_⟩
    · rw [hf3 _ _ (by omega) (by omega)]; exact hfx.1.1
    · rw [hf3 _ _ (by omega) (by omega)]; exact hfx.1.2.1
    · rw [hf3 _ _ (by omega) (by omega)]; exact hfx.2 j j0 j1
end Sees

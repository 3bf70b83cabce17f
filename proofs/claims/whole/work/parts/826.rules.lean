/-! A RULE IS READ, in both. -/
theorem lor_8 {v n : Int} (v0 : 0 ≤ v) (v1 : v < 1099511627776) (n0 : 0 ≤ n) (n1 : n ≤ 255) : lor (lshl v 8) n = 256 * v + n := by
  have e : lshl v 8 = z64 (v * 2 ^ 8) := lshl_eq (s := 8) (by decide)
  rw [show (2 : Int) ^ 8 = 256 from rfl, z64_id (by omega) (by omega)] at e
  have hl := lor_in (lshl v 8) n
  refine ub_inj hl.1 hl.2 (by omega) (by omega) ?_
  rw [ub_lor, e]
  obtain ⟨a, rfl⟩ := nat_of v0
  obtain ⟨b, rfl⟩ := nat_of n0
  have e1 : ((a : Int) * 256) = ((2 ^ 8 * a : Nat) : Int) := by omega
  have e2 : (256 * (a : Int) + (b : Int)) = ((2 ^ 8 * a + b : Nat) : Int) := by omega
  rw [e1, e2, ub_nat (by omega), ub_nat (by omega), ub_nat (by omega)]
  exact (Nat.two_pow_add_eq_or_of_lt (i := 8) (by omega) a).symm
section RuleMath
variable (g : Int → Int) (z : Int)
/-- the four numbers of a value: fault, end, value -/
noncomputable def qdP : Nat → Int → Int → Int → Int × Int × Int
  | 0, _, k, v => (0, k, v)
  | n + 1, i, k, v => if i = 0 then (if rnF g z k 0 255 = 0 then qdP n 1 (rnE g z k) (256 * v + rnV g z k) else (rnF g z k 0 255, 0, 0)) else if rsF g z k 46 = 0 then (if rnF g z (nxp g z k + 1) 0 255 = 0 then qdP n 1 (rnE g z (nxp g z k + 1)) (256 * v + rnV g z (nxp g z k + 1)) else (rnF g z (nxp g z k + 1) 0 255, 0, 0)) else (rsF g z k 46, 0, 0)
/-- gate and port: fault, end, value, length, code -/
noncomputable def ruP3 (k v l : Int) : Int × Int × Int × Int × Int := if rsF g z k 61 = 0 then (if rnF g z (nxp g z k + 1) 0 99 = 0 then (if rnF g z (rnE g z (nxp g z k + 1)) 0 9 = 0 then (0, rnE g z (rnE g z (nxp g z k + 1)), v, l, 10 * rnV g z (nxp g z k + 1) + rnV g z (rnE g z (nxp g z k + 1))) else (rnF g z (rnE g z (nxp g z k + 1)) 0 9, 0, 0, 0, 0)) else (rnF g z (nxp g z k + 1) 0 99, 0, 0, 0, 0)) else (rsF g z k 61, 0, 0, 0, 0)
noncomputable def ruP2 (k v : Int) : Int × Int × Int × Int × Int := if rsF g z k 47 = 0 then (if rnF g z (nxp g z k + 1) 0 32 = 0 then (if v % wd (rnV g z (nxp g z k + 1)) = 0 then ruP3 g z (rnE g z (nxp g z k + 1)) v (rnV g z (nxp g z k + 1)) else (8 * nxp g z (nxp g z k + 1) + 3, 0, 0, 0, 0)) else (rnF g z (nxp g z k + 1) 0 32, 0, 0, 0, 0)) else (rsF g z k 47, 0, 0, 0, 0)
noncomputable def ruP (k : Int) : Int × Int × Int × Int × Int := if (qdP g z 4 0 k 0).1 = 0 then ruP2 g z (qdP g z 4 0 k 0).2.1 (qdP g z 4 0 k 0).2.2 else ((qdP g z 4 0 k 0).1, 0, 0, 0, 0)
end RuleMath
def vOK (x : Int × Int × Int) : Prop := (0 ≤ x.1 ∧ x.1 < 4294967296) ∧ (0 ≤ x.2.1 ∧ x.2.1 ≤ 32) ∧ x.1 % wd x.2.1 = 0 ∧ 0 ≤ x.2.2 ∧ x.2.2 ≤ 999
section RuleMath2
variable {g : Int → Int} {z : Int}
theorem qdP_ok (hg : gOK g z) : ∀ (n : Nat) (i k v : Int), 0 ≤ k → k ≤ z → 0 ≤ v → (qdP g z n i k v).1 = 0 → (k + 2 * n - (if i = 0 then 1 else 0) ≤ (qdP g z n i k v).2.1 + (if n = 0 then 0 else 0) ∧ (qdP g z n i k v).2.1 ≤ z ∧ k ≤ (qdP g z n i k v).2.1) ∧ 0 ≤ (qdP g z n i k v).2.2 ∧ (qdP g z n i k v).2.2 < (v + 1) * 256 ^ n
  | 0, i, k, v, k0, kz, v0, _ => by
    have e : qdP g z 0 i k v = (0, k, v) := rfl
    rw [e]
    refine ⟨⟨?_, kz, Int.le_refl _⟩, v0, ?_⟩
    · show k + 2 * ((0 : Nat) : Int) - (if i = 0 then 1 else 0) ≤ k + (if 0 = 0 then 0 else 0)
      split <;> simp <;> omega
    · show v < (v + 1) * 256 ^ 0
      omega
  | n + 1, i, k, v, k0, kz, v0, h => by
    have e : qdP g z (n + 1) i k v = if i = 0 then (if rnF g z k 0 255 = 0 then qdP g z n 1 (rnE g z k) (256 * v + rnV g z k) else (rnF g z k 0 255, 0, 0)) else if rsF g z k 46 = 0 then (if rnF g z (nxp g z k + 1) 0 255 = 0 then qdP g z n 1 (rnE g z (nxp g z k + 1)) (256 * v + rnV g z (nxp g z k + 1)) else (rnF g z (nxp g z k + 1) 0 255, 0, 0)) else (rsF g z k 46, 0, 0) := rfl
    have hp : ∀ (d w : Int), 0 ≤ d → d ≤ 255 → w < (256 * v + d + 1) * 256 ^ n → w < (v + 1) * 256 ^ (n + 1) := fun d w d0 d1 hw => by
      have h9 : (256 * v + d + 1) * (256 : Int) ^ n ≤ (256 * (v + 1)) * 256 ^ n := Int.mul_le_mul_of_nonneg_right (by omega) (by exact Int.le_of_lt (Int.pow_pos (by decide)))
      have h8 : (v + 1) * (256 : Int) ^ (n + 1) = (256 * (v + 1)) * 256 ^ n := by
        rw [Int.pow_succ, ← Int.mul_assoc, Int.mul_comm, ← Int.mul_assoc]
      omega
    have hz1 : (if n + 1 = 0 then (0 : Int) else 0) = 0 := if_neg (Nat.succ_ne_zero n)
    have hz0 : (if n = 0 then (0 : Int) else 0) = 0 := by split <;> rfl
    rw [hz1]
    by_cases ei : i = 0
    · rw [if_pos ei] at e
      by_cases e1 : rnF g z k 0 255 = 0
      · rw [if_pos e1] at e
        rw [e] at h ⊢
        have hr := rn_ok hg k0 kz e1
        have ih := qdP_ok hg n 1 (rnE g z k) (256 * v + rnV g z k) (by omega) hr.2.2 (by omega) h
        rw [hz0, if_neg (by decide)] at ih
        rw [if_pos ei]
        exact ⟨⟨by omega, ih.1.2.1, by omega⟩, ih.2.1, hp _ _ hr.1.2.1 hr.1.2.2 ih.2.2⟩
      · rw [if_neg e1] at e
        rw [e] at h
        exact absurd h e1
    · rw [if_neg ei] at e
      by_cases e0 : rsF g z k 46 = 0
      · rw [if_pos e0] at e
        have hs := rs_ok hg k0 kz (by decide) e0
        by_cases e1 : rnF g z (nxp g z k + 1) 0 255 = 0
        · rw [if_pos e1] at e
          rw [e] at h ⊢
          have hr := rn_ok hg (by omega) hs.2.2 e1
          have ih := qdP_ok hg n 1 (rnE g z (nxp g z k + 1)) (256 * v + rnV g z (nxp g z k + 1)) (by omega) hr.2.2 (by omega) h
          rw [hz0, if_neg (by decide)] at ih
          rw [if_neg ei]
          exact ⟨⟨by omega, ih.1.2.1, by omega⟩, ih.2.1, hp _ _ hr.1.2.1 hr.1.2.2 ih.2.2⟩
        · rw [if_neg e1] at e
          rw [e] at h
          exact absurd h e1
      · rw [if_neg e0] at e
        rw [e] at h
        exact absurd h e0
theorem ruP3_ok (hg : gOK g z) {k v l : Int} (k0 : 0 ≤ k) (kz : k ≤ z) (h : (ruP3 g z k v l).1 = 0) : ruP3 g z k v l = (0, rnE g z (rnE g z (nxp g z k + 1)), v, l, 10 * rnV g z (nxp g z k + 1) + rnV g z (rnE g z (nxp g z k + 1))) ∧ (k < (ruP3 g z k v l).2.1 ∧ (ruP3 g z k v l).2.1 ≤ z) ∧ 0 ≤ (ruP3 g z k v l).2.2.2.2 ∧ (ruP3 g z k v l).2.2.2.2 ≤ 999 := by
  have e : ruP3 g z k v l = if rsF g z k 61 = 0 then (if rnF g z (nxp g z k + 1) 0 99 = 0 then (if rnF g z (rnE g z (nxp g z k + 1)) 0 9 = 0 then (0, rnE g z (rnE g z (nxp g z k + 1)), v, l, 10 * rnV g z (nxp g z k + 1) + rnV g z (rnE g z (nxp g z k + 1))) else (rnF g z (rnE g z (nxp g z k + 1)) 0 9, 0, 0, 0, 0)) else (rnF g z (nxp g z k + 1) 0 99, 0, 0, 0, 0)) else (rsF g z k 61, 0, 0, 0, 0) := rfl
  by_cases e0 : rsF g z k 61 = 0
  · rw [if_pos e0] at e
    have hs := rs_ok hg k0 kz (by decide) e0
    by_cases e1 : rnF g z (nxp g z k + 1) 0 99 = 0
    · rw [if_pos e1] at e
      have hr := rn_ok hg (by omega) hs.2.2 e1
      by_cases e2 : rnF g z (rnE g z (nxp g z k + 1)) 0 9 = 0
      · rw [if_pos e2] at e
        have hr2 := rn_ok hg (by omega) hr.2.2 e2
        refine ⟨e, ?_⟩
        rw [e]
        show (k < rnE g z (rnE g z (nxp g z k + 1)) ∧ rnE g z (rnE g z (nxp g z k + 1)) ≤ z) ∧ 0 ≤ 10 * rnV g z (nxp g z k + 1) + rnV g z (rnE g z (nxp g z k + 1)) ∧ 10 * rnV g z (nxp g z k + 1) + rnV g z (rnE g z (nxp g z k + 1)) ≤ 999
        omega
      · rw [if_neg e2] at e
        rw [e] at h
        exact absurd h e2
    · rw [if_neg e1] at e
      rw [e] at h
      exact absurd h e1
  · rw [if_neg e0] at e
    rw [e] at h
    exact absurd h e0
theorem ruP_ok (hg : gOK g z) {k : Int} (k0 : 0 ≤ k) (kz : k ≤ z) (h : (ruP g z k).1 = 0) : (k + 7 ≤ (ruP g z k).2.1 ∧ (ruP g z k).2.1 ≤ z) ∧ vOK ((ruP g z k).2.2.1, (ruP g z k).2.2.2.1, (ruP g z k).2.2.2.2) := by
  have e : ruP g z k = if (qdP g z 4 0 k 0).1 = 0 then ruP2 g z (qdP g z 4 0 k 0).2.1 (qdP g z 4 0 k 0).2.2 else ((qdP g z 4 0 k 0).1, 0, 0, 0, 0) := rfl
  by_cases e0 : (qdP g z 4 0 k 0).1 = 0
  · rw [if_pos e0] at e
    have hq := qdP_ok hg 4 0 k 0 k0 kz (Int.le_refl _) e0
    rw [if_pos rfl, if_neg (by decide)] at hq
    generalize (qdP g z 4 0 k 0).2.1 = p at *
    generalize (qdP g z 4 0 k 0).2.2 = v at *
    have hv : v < 4294967296 := by have := hq.2.2; have e9 : ((0 : Int) + 1) * 256 ^ 4 = 4294967296 := by decide
                                   omega
    have hq1 := hq.1
    have e2 : ruP2 g z p v = if rsF g z p 47 = 0 then (if rnF g z (nxp g z p + 1) 0 32 = 0 then (if v % wd (rnV g z (nxp g z p + 1)) = 0 then ruP3 g z (rnE g z (nxp g z p + 1)) v (rnV g z (nxp g z p + 1)) else (8 * nxp g z (nxp g z p + 1) + 3, 0, 0, 0, 0)) else (rnF g z (nxp g z p + 1) 0 32, 0, 0, 0, 0)) else (rsF g z p 47, 0, 0, 0, 0) := rfl
    rw [e] at h ⊢
    by_cases f0 : rsF g z p 47 = 0
    · rw [if_pos f0] at e2
      have hs := rs_ok hg (by omega) hq.1.2.1 (by decide) f0
      by_cases f1 : rnF g z (nxp g z p + 1) 0 32 = 0
      · rw [if_pos f1] at e2
        have hr := rn_ok hg (by omega) hs.2.2 f1
        by_cases f2 : v % wd (rnV g z (nxp g z p + 1)) = 0
        · rw [if_pos f2] at e2
          rw [e2] at h ⊢
          have h3 := ruP3_ok hg (by omega) hr.2.2 h
          have e3 := h3.1
          refine ⟨by omega, ?_⟩
          have e31 : (ruP3 g z (rnE g z (nxp g z p + 1)) v (rnV g z (nxp g z p + 1))).2.2.1 = v := by rw [e3]
          have e32 : (ruP3 g z (rnE g z (nxp g z p + 1)) v (rnV g z (nxp g z p + 1))).2.2.2.1 = rnV g z (nxp g z p + 1) := by rw [e3]
          rw [e31, e32]
          exact ⟨⟨hq.2.1, hv⟩, hr.1.2, f2, h3.2.2⟩
        · rw [if_neg f2] at e2
          rw [e2] at h
          have hn := nxp_in hg (nxp g z p + 1) hs.2.2
          have h' : 8 * nxp g z (nxp g z p + 1) + 3 = 0 := h
          omega
      · rw [if_neg f1] at e2
        rw [e2] at h
        exact absurd h f1
    · rw [if_neg f0] at e2
      rw [e2] at h
      exact absurd h f0
  · rw [if_neg e0] at e
    rw [e] at h
    exact absurd h e0
end RuleMath2
section RuleClass
variable {d : Nat} {M : xM} {Q : xQ} {a t : Int} {g : Int → Int} {z : Int}
/-- behind a fault nothing is told any more -/
theorem qTape_rule_x95 {v p l k : Int} (hT : TG M a g z) (e : M a 2 = k) (k0 : 0 ≤ k) (kz : k ≤ z) (e3 : ¬ M a 3 = 0) (h : ∀ N : xM, (0 ≤ N a 2 ∧ N a 2 ≤ z) → (∀ b j : Int, ¬ (b = a ∧ j = 2) → N b j = M b j) → Q xU N) : Ru (d + 3) kTape_readRule 95 [xO 7 a, xO 6 t, xL v, xU, xI p, xI l, xU, xU] [] M Q := by
  refine vTape_readRule_95 (qTape_expect_x (k := k) e3 (vTape_readRule_101 (qTape_readNumber_x hT e k0 kz e3 (fun N hp hf => vTape_readRule_107 ?_))))
  have hTN : TG N a g z := TG_fr hT (hf _ _ (by omega)) (fun j => hf _ _ (by omega))
  have e33 : ¬ N a 3 = 0 := by rw [hf _ _ (by omega)]; exact e3
  refine qTape_readNumber_x hTN rfl hp.1 hp.2 e33 (fun N2 hp2 hf2 => vTape_readRule_115 ⟨fun _ => h N2 hp2 (fun b j hb => by rw [hf2 b j hb]; exact hf b j hb), fun y => absurd ?_ y⟩)
  rw [hf2 _ _ (by omega)]
  exact e33
theorem qTape_rule_x48 {v i k : Int} (hT : TG M a g z) (e : M a 2 = k) (k0 : 0 ≤ k) (kz : k ≤ z) (e3 : ¬ M a 3 = 0) (h : ∀ N : xM, (0 ≤ N a 2 ∧ N a 2 ≤ z) → (∀ b j : Int, ¬ (b = a ∧ j = 2) → N b j = M b j) → Q xU N) : Ru (d + 3) kTape_readRule 48 [xO 7 a, xO 6 t, xL v, xU, xI i, xU, xU, xU] [] M Q := by
  have hn := nxp_in hT.1 k kz
  refine vTape_readRule_48 (qTape_nextSign hT e k0 kz (fun N e2 hf => vTape_readRule_52 ?_))
  have hTN : TG N a g z := TG_fr hT (hf _ _ (by omega)) (fun j => hf _ _ (by omega))
  have e33 : ¬ N a 3 = 0 := by rw [hf _ _ (by omega)]; exact e3
  refine qTape_readNumber_x hTN e2 (by omega) hn.2.1 e33 (fun N2 hp2 hf2 => vTape_readRule_65 ⟨fun _ => ?_, fun y => absurd (by rw [hf2 _ _ (by omega)]; exact e33) y⟩)
  have hT2 : TG N2 a g z := TG_fr hTN (hf2 _ _ (by omega)) (fun j => hf2 _ _ (by omega))
  exact qTape_rule_x95 hT2 rfl hp2.1 hp2.2 (by rw [hf2 _ _ (by omega)]; exact e33) (fun N3 hp3 hf3 => h N3 hp3 (fun b j hb => by rw [hf3 b j hb, hf2 b j hb]; exact hf b j hb))
theorem qTape_rule_x5 (h : ∀ N : xM, (0 ≤ N a 2 ∧ N a 2 ≤ z) → (∀ b j : Int, ¬ (b = a ∧ j = 2) → N b j = M b j) → Q xU N) : ∀ i : Int, i ≤ 4 → ∀ (N : xM) (v : Int), 0 ≤ i → TG N a g z → (0 ≤ N a 2 ∧ N a 2 ≤ z) → ¬ N a 3 = 0 → (∀ b j : Int, ¬ (b = a ∧ j = 2) → N b j = M b j) → Ru (d + 3) kTape_readRule 5 [xO 7 a, xO 6 t, xL v, xU, xI i, xU, xU, xU] [] N Q := by
  refine loop_up 4 (fun i hi ih N v i0 hTN hp e3 hf => ?_)
  have num : Ru (d + 3) kTape_readRule 22 [xO 7 a, xO 6 t, xL v, xU, xI i, xU, xU, xU] [] N Q ∨ 4 ≤ i := by
    by_cases e4 : 4 ≤ i
    · exact Or.inr e4
    · refine Or.inl (vTape_readRule_22 (qTape_readNumber_x hTN rfl hp.1 hp.2 e3 (fun N2 hp2 hf2 => vTape_readRule_33 ?_)))
      rw [z32_id (by omega) (by omega)]
      exact ih (i + 1) (by omega) (by omega) N2 _ (by omega) (TG_fr hTN (hf2 _ _ (by omega)) (fun j => hf2 _ _ (by omega))) hp2 (by rw [hf2 _ _ (by omega)]; exact e3) (fun b j hb => by rw [hf2 b j hb]; exact hf b j hb)
  refine vTape_readRule_5 ⟨fun y => qTape_expect_x (k := 0) e3 (qTape_rule_x48 hTN rfl hp.1 hp.2 e3 (fun N2 hp2 hf2 => h N2 hp2 (fun b j hb => by rw [hf2 b j hb]; exact hf b j hb))), fun y => ?_⟩
  rcases num with hn | hn
  · exact ⟨fun _ => hn, fun _ => qTape_expect_x (k := 0) e3 hn⟩
  · exact absurd hn y
theorem qTape_readRule {T : TB} {k : Int} (hw : tWF T) (hc : CT M t T) (hr : tN T < 60) (hap : a + 1 < t ∨ t + 6 < a) (hT : TG M a g z) (e : M a 2 = k) (k0 : 0 ≤ k) (kz : k ≤ z) (e3 : M a 3 = 0) (h : ∀ N : xM, N a 3 = (ruP g z k).1 → (0 ≤ N a 2 ∧ N a 2 ≤ z) → ((ruP g z k).1 = 0 → N a 2 = (ruP g z k).2.1 ∧ ∃ T2 : TB, isPut T (ruP g z k).2.2.1 (ruP g z k).2.2.2.1 (ruP g z k).2.2.2.2 T2 ∧ CT N t T2) → (∀ b j : Int, ¬ (b = a ∧ (j = 2 ∨ j = 3)) → b < t ∨ t + 5 < b → N b j = M b j) → Q xU N) : Ru (d + 3) kTape_readRule 0 [xO 7 a, xO 6 t, xU, xU, xU, xU, xU, xU] [] M Q := by
  have hz := hT.1.1
  -- a fault
  have bad : ∀ (N : xM) (f : Int), ¬ f = 0 → (ruP g z k).1 = f → N a 3 = f → (0 ≤ N a 2 ∧ N a 2 ≤ z) → (∀ b j : Int, ¬ (b = a ∧ (j = 2 ∨ j = 3)) → N b j = M b j) → (TG N a g z ∧ ¬ N a 3 = 0) ∧ ∀ N2 : xM, (0 ≤ N2 a 2 ∧ N2 a 2 ≤ z) → (∀ b j : Int, ¬ (b = a ∧ j = 2) → N2 b j = N b j) → Q xU N2 := fun N f f0 ef eN hp hf => by
    refine ⟨⟨TG_fr hT (hf _ _ (by omega)) (fun j => hf _ _ (by omega)), by rw [eN]; exact f0⟩, fun N2 hp2 hf2 => ?_⟩
    exact h N2 (by rw [ef, hf2 _ _ (by omega)]; exact eN) hp2 (fun z9 => absurd (by rw [← ef]; exact z9) f0) (fun b j hb _ => by rw [hf2 b j (by omega)]; exact hf b j hb)
  have eru : ruP g z k = if (qdP g z 4 0 k 0).1 = 0 then ruP2 g z (qdP g z 4 0 k 0).2.1 (qdP g z 4 0 k 0).2.2 else ((qdP g z 4 0 k 0).1, 0, 0, 0, 0) := rfl
  have main : ∀ i : Int, i ≤ 4 → ∀ (N : xM) (p v : Int), 0 ≤ i → N a 2 = p → N a 3 = 0 → (0 ≤ p ∧ p ≤ z) → (0 ≤ v ∧ v < 256 ^ i.toNat) → qdP g z (4 - i).toNat i p v = qdP g z 4 0 k 0 → (∀ b j : Int, ¬ (b = a ∧ (j = 2 ∨ j = 3)) → N b j = M b j) → Ru (d + 3) kTape_readRule 5 [xO 7 a, xO 6 t, xL v, xU, xI i, xU, xU, xU] [] N Q := by
    refine loop_up 4 (fun i hi ih N p v i0 e2 e33 hp hv hq hf => ?_)
    have hTN : TG N a g z := TG_fr hT (hf _ _ (by omega)) (fun j => hf _ _ (by omega))
    refine vTape_readRule_5 ⟨fun y => ?_, fun y => ?_⟩
    · -- the value is read
      have ei : i = 4 := by omega
      subst ei
      have hq' : (0, p, v) = qdP g z 4 0 k 0 := hq
      have hv4 : v < 4294967296 := by have := hv.2; have e9 : (256 : Int) ^ (4 : Int).toNat = 4294967296 := by decide
                                      omega
      rw [← hq'] at eru
      rw [if_pos rfl] at eru
      have e2p : ruP g z k = ruP2 g z p v := eru
      have erp : ruP2 g z p v = if rsF g z p 47 = 0 then (if rnF g z (nxp g z p + 1) 0 32 = 0 then (if v % wd (rnV g z (nxp g z p + 1)) = 0 then ruP3 g z (rnE g z (nxp g z p + 1)) v (rnV g z (nxp g z p + 1)) else (8 * nxp g z (nxp g z p + 1) + 3, 0, 0, 0, 0)) else (rnF g z (nxp g z p + 1) 0 32, 0, 0, 0, 0)) else (rsF g z p 47, 0, 0, 0, 0) := rfl
      refine qTape_expect hTN e2 hp.1 hp.2 (by decide) e33 (fun N2 n3 n2 n22 hf2 => ?_)
      have hf2M : ∀ b j : Int, ¬ (b = a ∧ (j = 2 ∨ j = 3)) → N2 b j = M b j := fun b j hb => by rw [hf2 b j hb]; exact hf b j hb
      have hT2 : TG N2 a g z := TG_fr hT (hf2M _ _ (by omega)) (fun j => hf2M _ _ (by omega))
      by_cases f0 : rsF g z p 47 = 0
      · rw [if_pos f0] at erp
        have hs := rs_ok hT.1 hp.1 hp.2 (by decide) f0
        have e22 := n22 f0
        rw [f0] at n3
        have hn1 := nxp_in hT.1 (nxp g z p + 1) hs.2.2
        refine vTape_readRule_48 (qTape_nextSign hT2 e22 (by omega) hs.2.2 (fun N3 m2 hf3 => vTape_readRule_52 ?_))
        have hf3M : ∀ b j : Int, ¬ (b = a ∧ (j = 2 ∨ j = 3)) → N3 b j = M b j := fun b j hb => by rw [hf3 b j (by omega)]; exact hf2M b j hb
        have hT3 : TG N3 a g z := TG_fr hT (hf3M _ _ (by omega)) (fun j => hf3M _ _ (by omega))
        rw [m2]
        have ii := nxp_i hT.1 hs.2.2
        have iF : rnF g z (nxp g z (nxp g z p + 1)) 0 32 = rnF g z (nxp g z p + 1) 0 32 := by unfold rnF; rw [ii]
        have iV : rnV g z (nxp g z (nxp g z p + 1)) = rnV g z (nxp g z p + 1) := by unfold rnV; rw [ii]
        have iE : rnE g z (nxp g z (nxp g z p + 1)) = rnE g z (nxp g z p + 1) := by unfold rnE; rw [ii]
        refine qTape_readNumber hT3 m2 (by omega) hn1.2.1 (by decide) (by decide) (by rw [hf3 _ _ (by omega)]; exact n3) (fun N4 l o3 o2 o22 hf4 => vTape_readRule_65 ?_)
        rw [iF] at o3 o22
        rw [iV, iE] at o22
        have hf4M : ∀ b j : Int, ¬ (b = a ∧ (j = 2 ∨ j = 3)) → N4 b j = M b j := fun b j hb => by rw [hf4 b j hb]; exact hf3M b j hb
        have hT4 : TG N4 a g z := TG_fr hT (hf4M _ _ (by omega)) (fun j => hf4M _ _ (by omega))
        by_cases f1 : rnF g z (nxp g z p + 1) 0 32 = 0
        · rw [if_pos f1] at erp
          have hrn := rn_ok hT.1 (by omega) hs.2.2 f1
          obtain ⟨el, e24⟩ := o22 f1
          subst el
          rw [f1] at o3
          refine ⟨fun y9 => absurd o3 y9, fun _ => qRS_widthOf (by omega) (by omega) (vTape_readRule_80 ?_)⟩
          rw [wd_land (by omega) (by omega)]
          -- gate and port
          refine ⟨fun y5 => ?_, fun y5 => ?_⟩
          · rw [if_pos y5] at erp
            have e3p : ruP g z k = ruP3 g z (rnE g z (nxp g z p + 1)) v (rnV g z (nxp g z p + 1)) := by rw [e2p, erp]
            have er3 : ruP3 g z (rnE g z (nxp g z p + 1)) v (rnV g z (nxp g z p + 1)) = if rsF g z (rnE g z (nxp g z p + 1)) 61 = 0 then (if rnF g z (nxp g z (rnE g z (nxp g z p + 1)) + 1) 0 99 = 0 then (if rnF g z (rnE g z (nxp g z (rnE g z (nxp g z p + 1)) + 1)) 0 9 = 0 then (0, rnE g z (rnE g z (nxp g z (rnE g z (nxp g z p + 1)) + 1)), v, rnV g z (nxp g z p + 1), 10 * rnV g z (nxp g z (rnE g z (nxp g z p + 1)) + 1) + rnV g z (rnE g z (nxp g z (rnE g z (nxp g z p + 1)) + 1))) else (rnF g z (rnE g z (nxp g z (rnE g z (nxp g z p + 1)) + 1)) 0 9, 0, 0, 0, 0)) else (rnF g z (nxp g z (rnE g z (nxp g z p + 1)) + 1) 0 99, 0, 0, 0, 0)) else (rsF g z (rnE g z (nxp g z p + 1)) 61, 0, 0, 0, 0) := rfl
            generalize hk1 : rnE g z (nxp g z p + 1) = k1 at *
            generalize hl1 : rnV g z (nxp g z p + 1) = l at *
            refine vTape_readRule_95 (qTape_expect hT4 e24 (by omega) hrn.2.2 (by decide) o3 (fun N5 q3 q2 q22 hf5 => vTape_readRule_101 ?_))
            have hf5M : ∀ b j : Int, ¬ (b = a ∧ (j = 2 ∨ j = 3)) → N5 b j = M b j := fun b j hb => by rw [hf5 b j hb]; exact hf4M b j hb
            have hT5 : TG N5 a g z := TG_fr hT (hf5M _ _ (by omega)) (fun j => hf5M _ _ (by omega))
            by_cases g0 : rsF g z k1 61 = 0
            · rw [if_pos g0] at er3
              have hs2 := rs_ok hT.1 (by omega) hrn.2.2 (by decide) g0
              rw [g0] at q3
              refine qTape_readNumber hT5 (q22 g0) (by omega) hs2.2.2 (by decide) (by decide) q3 (fun N6 ga s3 s2 s22 hf6 => vTape_readRule_107 ?_)
              have hf6M : ∀ b j : Int, ¬ (b = a ∧ (j = 2 ∨ j = 3)) → N6 b j = M b j := fun b j hb => by rw [hf6 b j hb]; exact hf5M b j hb
              have hT6 : TG N6 a g z := TG_fr hT (hf6M _ _ (by omega)) (fun j => hf6M _ _ (by omega))
              by_cases g1 : rnF g z (nxp g z k1 + 1) 0 99 = 0
              · rw [if_pos g1] at er3
                have hr2 := rn_ok hT.1 (by omega) hs2.2.2 g1
                obtain ⟨ega, e26⟩ := s22 g1
                rw [g1] at s3
                refine qTape_readNumber hT6 e26 (by omega) hr2.2.2 (by decide) (by decide) s3 (fun N7 po u3 u2 u22 hf7 => vTape_readRule_115 ?_)
                have hf7M : ∀ b j : Int, ¬ (b = a ∧ (j = 2 ∨ j = 3)) → N7 b j = M b j := fun b j hb => by rw [hf7 b j hb]; exact hf6M b j hb
                by_cases g2 : rnF g z (rnE g z (nxp g z k1 + 1)) 0 9 = 0
                · rw [if_pos g2] at er3
                  have hr3 := rn_ok hT.1 (by omega) hr2.2.2 g2
                  obtain ⟨epo, e27⟩ := u22 g2
                  rw [g2] at u3
                  have hfin := e3p.trans er3
                  refine ⟨fun y9 => absurd u3 y9, fun _ => qRS_keyOf ⟨by omega, by omega, by omega, by omega⟩ (vTape_readRule_135 ?_)⟩
                  have hc7 : CT N7 t T := CT_fr hc (fun b j b0 b1 => hf7M b j (by omega))
                  refine qTable_put hw hc7 hv.1 hv4 (by omega) (by omega) y5 (by omega) (by omega) (fun _ => hr) (fun T2 N8 pp hput _ hc8 hf8 => vTape_readRule_138 ?_)
                  have e01 : (ruP g z k).1 = 0 := by rw [hfin]
                  refine h N8 (by rw [e01, hf8 _ _ (by omega)]; exact u3) (by rw [hf8 _ _ (by omega)]; exact u2) (fun _ => ⟨?_, T2, ?_, hc8⟩) (fun b j hb hb2 => by rw [hf8 b j (by omega)]; exact hf7M b j hb)
                  · rw [hfin, hf8 _ _ (by omega)]
                    exact e27
                  · rw [hfin]
                    show isPut T v l (10 * rnV g z (nxp g z k1 + 1) + rnV g z (rnE g z (nxp g z k1 + 1))) T2
                    rw [← ega, ← epo]
                    exact hput
                · rw [if_neg g2] at er3
                  have ef : (ruP g z k).1 = rnF g z (rnE g z (nxp g z k1 + 1)) 0 9 := by rw [e3p, er3]
                  obtain ⟨b1, b2⟩ := bad N7 _ g2 ef u3 u2 hf7M
                  exact ⟨fun _ => b2 N7 u2 (fun _ _ _ => rfl), fun y9 => absurd b1.2 y9⟩
              · rw [if_neg g1] at er3
                have ef : (ruP g z k).1 = rnF g z (nxp g z k1 + 1) 0 99 := by rw [e3p, er3]
                obtain ⟨b1, b2⟩ := bad N6 _ g1 ef s3 s2 hf6M
                refine qTape_readNumber_x hT6 rfl s2.1 s2.2 b1.2 (fun N7 hp7 hf7 => vTape_readRule_115 ⟨fun _ => b2 N7 hp7 hf7, fun y9 => absurd (by rw [hf7 _ _ (by omega)]; exact b1.2) y9⟩)
            · rw [if_neg g0] at er3
              have ef : (ruP g z k).1 = rsF g z k1 61 := by rw [e3p, er3]
              obtain ⟨b1, b2⟩ := bad N5 _ g0 ef q3 q2 hf5M
              refine qTape_readNumber_x hT5 rfl q2.1 q2.2 b1.2 (fun N6 hp6 hf6 => vTape_readRule_107 ?_)
              have hT6 : TG N6 a g z := TG_fr hT5 (hf6 _ _ (by omega)) (fun j => hf6 _ _ (by omega))
              have b6 : ¬ N6 a 3 = 0 := by rw [hf6 _ _ (by omega)]; exact b1.2
              refine qTape_readNumber_x hT6 rfl hp6.1 hp6.2 b6 (fun N7 hp7 hf7 => vTape_readRule_115 ⟨fun _ => b2 N7 hp7 (fun b j hb => by rw [hf7 b j hb]; exact hf6 b j hb), fun y9 => absurd (by rw [hf7 _ _ (by omega)]; exact b6) y9⟩)
          · rw [if_neg y5] at erp
            have ef : (ruP g z k).1 = 8 * nxp g z (nxp g z p + 1) + 3 := by rw [e2p, erp]
            refine qTape_fail (by omega) (by omega) (by decide) (by decide) (fun y9 => absurd o3 y9) (fun _ => ?_)
            obtain ⟨b1, b2⟩ := bad (up N4 a 3 (8 * nxp g z (nxp g z p + 1) + 3)) _ (by omega) ef up_same (by rw [up_un (by omega)]; exact o2) (fun b j hb => by rw [up_un (by omega)]; exact hf4M b j hb)
            exact qTape_rule_x95 b1.1 rfl (by rw [up_un (by omega)]; exact o2.1) (by rw [up_un (by omega)]; exact o2.2) b1.2 b2
        · rw [if_neg f1] at erp
          have ef : (ruP g z k).1 = rnF g z (nxp g z p + 1) 0 32 := by rw [e2p, erp]
          obtain ⟨b1, b2⟩ := bad N4 _ f1 ef o3 o2 hf4M
          exact ⟨fun _ => qTape_rule_x95 b1.1 rfl o2.1 o2.2 b1.2 b2, fun y9 => absurd b1.2 y9⟩
      · rw [if_neg f0] at erp
        have ef : (ruP g z k).1 = rsF g z p 47 := by rw [e2p, erp]
        obtain ⟨b1, b2⟩ := bad N2 _ f0 ef n3 n2 hf2M
        exact qTape_rule_x48 b1.1 rfl n2.1 n2.2 b1.2 b2
    · -- a number more
      have hq1 : qdP g z (4 - i).toNat i p v = if i = 0 then (if rnF g z p 0 255 = 0 then qdP g z (4 - (i + 1)).toNat 1 (rnE g z p) (256 * v + rnV g z p) else (rnF g z p 0 255, 0, 0)) else if rsF g z p 46 = 0 then (if rnF g z (nxp g z p + 1) 0 255 = 0 then qdP g z (4 - (i + 1)).toNat 1 (rnE g z (nxp g z p + 1)) (256 * v + rnV g z (nxp g z p + 1)) else (rnF g z (nxp g z p + 1) 0 255, 0, 0)) else (rsF g z p 46, 0, 0) := by
        rw [show (4 - i).toNat = (4 - (i + 1)).toNat + 1 by omega]
        rfl
      have vb : v < 1099511627776 := by
        have h1 : (256 : Int) ^ i.toNat ≤ 256 ^ 4 := by
          have : i.toNat ≤ 4 := by omega
          rcases (show i.toNat = 0 ∨ i.toNat = 1 ∨ i.toNat = 2 ∨ i.toNat = 3 ∨ i.toNat = 4 by omega) with q | q | q | q | q <;> rw [q] <;> decide
        have e9 : (256 : Int) ^ 4 = 4294967296 := by decide
        have := hv.2
        omega
      have qdi : ∀ (n : Nat) (i : Int) (p v : Int), ¬ i = 0 → qdP g z n i p v = qdP g z n 1 p v := fun n i p v hi0 => by
        cases n with
        | zero => rfl
        | succ n =>
          show (if i = 0 then _ else _) = (if (1 : Int) = 0 then _ else _)
          rw [if_neg hi0, if_neg (c := (1 : Int) = 0) (by decide)]
      -- the number itself, at place p2
      have num : ∀ (N2 : xM) (p2 : Int), N2 a 2 = p2 → N2 a 3 = 0 → (0 ≤ p2 ∧ p2 ≤ z) → (qdP g z 4 0 k 0 = if rnF g z p2 0 255 = 0 then qdP g z (4 - (i + 1)).toNat 1 (rnE g z p2) (256 * v + rnV g z p2) else (rnF g z p2 0 255, 0, 0)) → (∀ b j : Int, ¬ (b = a ∧ (j = 2 ∨ j = 3)) → N2 b j = M b j) → Ru (d + 3) kTape_readRule 22 [xO 7 a, xO 6 t, xL v, xU, xI i, xU, xU, xU] [] N2 Q := fun N2 p2 m2 m3 hp2 hqq hf2 => by
        have hT2 : TG N2 a g z := TG_fr hT (hf2 _ _ (by omega)) (fun j => hf2 _ _ (by omega))
        refine vTape_readRule_22 (qTape_readNumber hT2 m2 hp2.1 hp2.2 (by decide) (by decide) m3 (fun N3 n o3 o2 o22 hf3 => vTape_readRule_33 ?_))
        have hf3M : ∀ b j : Int, ¬ (b = a ∧ (j = 2 ∨ j = 3)) → N3 b j = M b j := fun b j hb => by rw [hf3 b j hb]; exact hf2 b j hb
        have hT3 : TG N3 a g z := TG_fr hT (hf3M _ _ (by omega)) (fun j => hf3M _ _ (by omega))
        rw [z32_id (x := i + 1) (by omega) (by omega)]
        by_cases f1 : rnF g z p2 0 255 = 0
        · rw [if_pos f1] at hqq
          have hrn := rn_ok hT.1 hp2.1 hp2.2 f1
          obtain ⟨en, e22⟩ := o22 f1
          subst en
          rw [f1] at o3
          rw [lor_8 hv.1 vb hrn.1.2.1 hrn.1.2.2]
          refine ih (i + 1) (by omega) (by omega) N3 _ _ (by omega) e22 o3 (by omega) ⟨by omega, ?_⟩ (by rw [hqq]; exact qdi _ _ _ _ (by omega)) hf3M
          rw [show (i + 1).toNat = i.toNat + 1 by omega, Int.pow_succ]
          have := hv.2
          omega
        · rw [if_neg f1] at hqq
          have ef : (ruP g z k).1 = rnF g z p2 0 255 := by rw [eru, hqq, if_neg f1]
          obtain ⟨b1, b2⟩ := bad N3 _ f1 ef o3 o2 hf3M
          exact qTape_rule_x5 (M := N3) b2 (i + 1) (by omega) N3 _ (by omega) b1.1 o2 b1.2 (fun _ _ _ => rfl)
      refine ⟨fun y2 => ?_, fun y2 => ?_⟩
      · rw [if_pos (show i = 0 by omega)] at hq1
        exact num N p e2 e33 hp (by rw [← hq]; exact hq1) hf
      · rw [if_neg (show ¬ i = 0 by omega)] at hq1
        refine qTape_expect hTN e2 hp.1 hp.2 (by decide) e33 (fun N2 n3 n2 n22 hf2 => ?_)
        have hf2M : ∀ b j : Int, ¬ (b = a ∧ (j = 2 ∨ j = 3)) → N2 b j = M b j := fun b j hb => by rw [hf2 b j hb]; exact hf b j hb
        by_cases f0 : rsF g z p 46 = 0
        · rw [if_pos f0] at hq1
          have hs := rs_ok hT.1 hp.1 hp.2 (by decide) f0
          rw [f0] at n3
          exact num N2 _ (n22 f0) n3 (by omega) (by rw [← hq]; exact hq1) hf2M
        · rw [if_neg f0] at hq1
          have ef : (ruP g z k).1 = rsF g z p 46 := by rw [eru, ← hq, hq1, if_neg f0]
          obtain ⟨b1, b2⟩ := bad N2 _ f0 ef n3 n2 hf2M
          have x5 := qTape_rule_x5 (d := d) (t := t) (M := N2) (a := a) (g := g) (z := z) b2
          refine vTape_readRule_22 (qTape_readNumber_x b1.1 rfl n2.1 n2.2 b1.2 (fun N3 hp3 hf3 => vTape_readRule_33 ?_))
          rw [z32_id (x := i + 1) (by omega) (by omega)]
          exact x5 (i + 1) (by omega) N3 _ (by omega) (TG_fr b1.1 (hf3 _ _ (by omega)) (fun j => hf3 _ _ (by omega))) hp3 (by rw [hf3 _ _ (by omega)]; exact b1.2) hf3
  exact vTape_readRule_0 (main 0 (by decide) M k 0 (by decide) e e3 ⟨k0, kz⟩ ⟨by decide, by decide⟩ rfl (fun _ _ _ => rfl))
end RuleClass

/-! A RULE IS READ in the reference; strides are read in both. -/
section RuleRef
variable {d : Nat} {M : xM} {Q : xQ} {r : Int} {g : Int → Int} {z : Int}
theorem qMo_readsRule {k m : Int} (hT : RG M r g z) (e : M r 36 = k) (k0 : 0 ≤ k) (kz : k ≤ z) (em : M r 40 = m) (m0 : 0 ≤ m) (m1 : m < 64) (h1 : ∀ N : xM, (ruP g z k).1 = 0 → N r 36 = (ruP g z k).2.1 → N r 40 = m + 1 → N (r + 23) m = (ruP g z k).2.2.1 → N (r + 24) m = (ruP g z k).2.2.2.1 → N (r + 25) m = (ruP g z k).2.2.2.2 → (∀ b j : Int, ¬ (b = r ∧ 36 ≤ j ∧ j ≤ 40) → ¬ (r + 23 ≤ b ∧ b ≤ r + 25 ∧ j = m) → N b j = M b j) → Q (xI 1) N) (h0 : ∀ N : xM, ¬ (ruP g z k).1 = 0 → N r 37 = (ruP g z k).1 → (∀ b j : Int, ¬ (b = r ∧ 36 ≤ j ∧ j ≤ 40) → ¬ (r + 23 ≤ b ∧ b ≤ r + 25 ∧ j = m) → N b j = M b j) → Q (xI 0) N) : Ru (d + 4) kMo_readsRule 0 [xO 9 r, xU, xU, xU, xU] [] M Q := by
  have hz := hT.1.1
  have eru : ruP g z k = if (qdP g z 4 0 k 0).1 = 0 then ruP2 g z (qdP g z 4 0 k 0).2.1 (qdP g z 4 0 k 0).2.2 else ((qdP g z 4 0 k 0).1, 0, 0, 0, 0) := rfl
  have bad : ∀ (N : xM) (f : Int), ¬ f = 0 → (ruP g z k).1 = f → N r 37 = f → (∀ b j : Int, ¬ (b = r ∧ 36 ≤ j ∧ j ≤ 39) → N b j = M b j) → Q (xI 0) N := fun N f f0 ef eN hf => h0 N (by rw [ef]; exact f0) (by rw [ef]; exact eN) (fun b j hb _ => hf b j (by omega))
  have main : ∀ i : Int, i ≤ 4 → ∀ (N : xM) (p v : Int), 0 ≤ i → N r 36 = p → (0 ≤ p ∧ p ≤ z) → (0 ≤ v ∧ v < 256 ^ i.toNat) → qdP g z (4 - i).toNat i p v = qdP g z 4 0 k 0 → (∀ b j : Int, ¬ (b = r ∧ 36 ≤ j ∧ j ≤ 39) → N b j = M b j) → Ru (d + 4) kMo_readsRule 4 [xO 9 r, xL v, xU, xI i, xU] [] N Q := by
    refine loop_up 4 (fun i hi ih N p v i0 e2 hp hv hq hf => ?_)
    have hTN : RG N r g z := RG_fr hT (hf _ _ (by omega)) (fun j => hf _ _ (by omega))
    refine vMo_readsRule_4 ⟨fun y => ?_, fun y => ?_⟩
    · have ei : i = 4 := by omega
      subst ei
      have hq' : (0, p, v) = qdP g z 4 0 k 0 := hq
      have hv4 : v < 4294967296 := by have := hv.2; have e9 : (256 : Int) ^ (4 : Int).toNat = 4294967296 := by decide
                                      omega
      rw [← hq'] at eru
      rw [if_pos rfl] at eru
      have e2p : ruP g z k = ruP2 g z p v := eru
      have erp : ruP2 g z p v = if rsF g z p 47 = 0 then (if rnF g z (nxp g z p + 1) 0 32 = 0 then (if v % wd (rnV g z (nxp g z p + 1)) = 0 then ruP3 g z (rnE g z (nxp g z p + 1)) v (rnV g z (nxp g z p + 1)) else (8 * nxp g z (nxp g z p + 1) + 3, 0, 0, 0, 0)) else (rnF g z (nxp g z p + 1) 0 32, 0, 0, 0, 0)) else (rsF g z p 47, 0, 0, 0, 0) := rfl
      refine qMo_readsSign hTN e2 hp.1 hp.2 (by decide) (fun N2 f0 n2 hf2 => vMo_readsRule_59 ⟨fun y9 => absurd y9 (by decide), fun _ => ?_⟩) (fun N2 f0 n37 hf2 => vMo_readsRule_59 ⟨fun _ => ?_, fun y9 => absurd rfl y9⟩)
      · rw [if_pos f0] at erp
        have hs := rs_ok hT.1 hp.1 hp.2 (by decide) f0
        have hf2M : ∀ b j : Int, ¬ (b = r ∧ 36 ≤ j ∧ j ≤ 39) → N2 b j = M b j := fun b j hb => by rw [hf2 b j (by omega)]; exact hf b j hb
        have hT2 : RG N2 r g z := RG_fr hT (hf2M _ _ (by omega)) (fun j => hf2M _ _ (by omega))
        refine qMo_readsNumber hT2 n2 (by omega) hs.2.2 (by decide) (by decide) (by decide) (fun N3 f1 o38 o36 o39 hf3 => vMo_readsRule_69 ⟨fun _ => ?_, fun y9 => absurd (by decide) y9⟩) (fun N3 f1 o37 hf3 => vMo_readsRule_69 ⟨fun y9 => absurd rfl y9, fun _ => ?_⟩)
        · rw [if_pos f1] at erp
          have hrn := rn_ok hT.1 (by omega) hs.2.2 f1
          have hf3M : ∀ b j : Int, ¬ (b = r ∧ 36 ≤ j ∧ j ≤ 39) → N3 b j = M b j := fun b j hb => by rw [hf3 b j (by omega)]; exact hf2M b j hb
          have hT3 : RG N3 r g z := RG_fr hT (hf3M _ _ (by omega)) (fun j => hf3M _ _ (by omega))
          have hn1 := nxp_in hT.1 (nxp g z p + 1) hs.2.2
          rw [o38]
          refine qMo_sizeOf (by omega) (by omega) (vMo_readsRule_84 ⟨Int.ne_of_gt (wd_pos _), ?_⟩)
          rw [wd_lrem hv.1 (by omega) (by omega)]
          refine ⟨fun y5 => ?_, fun y5 => ?_⟩
          · rw [if_pos y5] at erp
            have e3p : ruP g z k = ruP3 g z (rnE g z (nxp g z p + 1)) v (rnV g z (nxp g z p + 1)) := by rw [e2p, erp]
            have er3 : ruP3 g z (rnE g z (nxp g z p + 1)) v (rnV g z (nxp g z p + 1)) = if rsF g z (rnE g z (nxp g z p + 1)) 61 = 0 then (if rnF g z (nxp g z (rnE g z (nxp g z p + 1)) + 1) 0 99 = 0 then (if rnF g z (rnE g z (nxp g z (rnE g z (nxp g z p + 1)) + 1)) 0 9 = 0 then (0, rnE g z (rnE g z (nxp g z (rnE g z (nxp g z p + 1)) + 1)), v, rnV g z (nxp g z p + 1), 10 * rnV g z (nxp g z (rnE g z (nxp g z p + 1)) + 1) + rnV g z (rnE g z (nxp g z (rnE g z (nxp g z p + 1)) + 1))) else (rnF g z (rnE g z (nxp g z (rnE g z (nxp g z p + 1)) + 1)) 0 9, 0, 0, 0, 0)) else (rnF g z (nxp g z (rnE g z (nxp g z p + 1)) + 1) 0 99, 0, 0, 0, 0)) else (rsF g z (rnE g z (nxp g z p + 1)) 61, 0, 0, 0, 0) := rfl
            generalize hk1 : rnE g z (nxp g z p + 1) = k1 at *
            generalize hl1 : rnV g z (nxp g z p + 1) = l at *
            refine qMo_readsSign hT3 o36 (by omega) hrn.2.2 (by decide) (fun N4 g0 q2 hf4 => vMo_readsRule_106 ⟨fun y9 => absurd y9 (by decide), fun _ => ?_⟩) (fun N4 g0 q37 hf4 => vMo_readsRule_106 ⟨fun _ => ?_, fun y9 => absurd rfl y9⟩)
            · rw [if_pos g0] at er3
              have hs2 := rs_ok hT.1 (by omega) hrn.2.2 (by decide) g0
              have hf4M : ∀ b j : Int, ¬ (b = r ∧ 36 ≤ j ∧ j ≤ 39) → N4 b j = M b j := fun b j hb => by rw [hf4 b j (by omega)]; exact hf3M b j hb
              have hT4 : RG N4 r g z := RG_fr hT (hf4M _ _ (by omega)) (fun j => hf4M _ _ (by omega))
              refine qMo_readsNumber hT4 q2 (by omega) hs2.2.2 (by decide) (by decide) (by decide) (fun N5 g1 s38 s36 s39 hf5 => vMo_readsRule_116 ⟨fun _ => ?_, fun y9 => absurd (by decide) y9⟩) (fun N5 g1 s37 hf5 => vMo_readsRule_116 ⟨fun y9 => absurd rfl y9, fun _ => ?_⟩)
              · rw [if_pos g1] at er3
                have hr2 := rn_ok hT.1 (by omega) hs2.2.2 g1
                have hf5M : ∀ b j : Int, ¬ (b = r ∧ 36 ≤ j ∧ j ≤ 39) → N5 b j = M b j := fun b j hb => by rw [hf5 b j (by omega)]; exact hf4M b j hb
                have hT5 : RG N5 r g z := RG_fr hT (hf5M _ _ (by omega)) (fun j => hf5M _ _ (by omega))
                rw [s38]
                refine qMo_readsNumber hT5 s36 (by omega) hr2.2.2 (by decide) (by decide) (by decide) (fun N6 g2 u38 u36 u39 hf6 => vMo_readsRule_134 ⟨fun _ => ?_, fun y9 => absurd (by decide) y9⟩) (fun N6 g2 u37 hf6 => vMo_readsRule_134 ⟨fun y9 => absurd rfl y9, fun _ => ?_⟩)
                · rw [if_pos g2] at er3
                  have hr3 := rn_ok hT.1 (by omega) hr2.2.2 g2
                  have hfin := e3p.trans er3
                  have hf6M : ∀ b j : Int, ¬ (b = r ∧ 36 ≤ j ∧ j ≤ 39) → N6 b j = M b j := fun b j hb => by rw [hf6 b j (by omega)]; exact hf5M b j hb
                  have e40 : N6 r 40 = m := by rw [hf6M _ _ (by omega)]; exact em
                  have e01 : (ruP g z k).1 = 0 := by rw [hfin]
                  simp (disch := omega) only [up_un]
                  rw [e40, u38, z32_id (x := 10 * rnV g z (nxp g z k1 + 1)) (by omega) (by omega), z32_id (x := 10 * rnV g z (nxp g z k1 + 1) + _) (by omega) (by omega), z32_id (x := m + 1) (by omega) (by omega)]
                  refine ⟨by omega, by omega, by omega, h1 _ e01 ?_ up_same ?_ ?_ ?_ (fun b j hb hb2 => ?_)⟩
                  · rw [up_un (by omega), up_un (by omega), up_un (by omega), up_un (by omega), u36, hfin]
                  · rw [up_un (by omega), up_un (by omega), up_un (by omega), up_same, hfin]
                  · rw [up_un (by omega), up_un (by omega), up_same, hfin]
                  · rw [up_un (by omega), up_same, hfin]
                  · rw [up_un (by omega), up_un (by omega), up_un (by omega), up_un (by omega)]
                    exact hf6M b j (by omega)
                · rw [if_neg g2] at er3
                  exact bad N6 _ g2 (by rw [e3p, er3]) u37 (fun b j hb => by rw [hf6 b j (by omega)]; exact hf5M b j hb)
              · rw [if_neg g1] at er3
                exact bad N5 _ g1 (by rw [e3p, er3]) s37 (fun b j hb => by rw [hf5 b j (by omega)]; exact hf4M b j hb)
            · rw [if_neg g0] at er3
              exact bad N4 _ g0 (by rw [e3p, er3]) q37 (fun b j hb => by rw [hf4 b j (by omega)]; exact hf3M b j hb)
          · rw [if_neg y5] at erp
            rw [o39]
            refine qMo_fails (by omega) (by omega) (by decide) (by decide) (vMo_readsRule_99 ?_)
            exact bad _ (8 * nxp g z (nxp g z p + 1) + 3) (by omega) (by rw [e2p, erp]) up_same (fun b j hb => by rw [up_un (by omega)]; exact hf3M b j hb)
        · rw [if_neg f1] at erp
          exact bad N3 _ f1 (by rw [e2p, erp]) o37 (fun b j hb => by rw [hf3 b j (by omega)]; exact hf2M b j hb)
      · rw [if_neg f0] at erp
        exact bad N2 _ f0 (by rw [e2p, erp]) n37 (fun b j hb => by rw [hf2 b j (by omega)]; exact hf b j hb)
    · have hq1 : qdP g z (4 - i).toNat i p v = if i = 0 then (if rnF g z p 0 255 = 0 then qdP g z (4 - (i + 1)).toNat 1 (rnE g z p) (256 * v + rnV g z p) else (rnF g z p 0 255, 0, 0)) else if rsF g z p 46 = 0 then (if rnF g z (nxp g z p + 1) 0 255 = 0 then qdP g z (4 - (i + 1)).toNat 1 (rnE g z (nxp g z p + 1)) (256 * v + rnV g z (nxp g z p + 1)) else (rnF g z (nxp g z p + 1) 0 255, 0, 0)) else (rsF g z p 46, 0, 0) := by
        rw [show (4 - i).toNat = (4 - (i + 1)).toNat + 1 by omega]
        rfl
      have vb : v < 1099511627776 := by
        have h1 : (256 : Int) ^ i.toNat ≤ 256 ^ 4 := by
          rcases (show i.toNat = 0 ∨ i.toNat = 1 ∨ i.toNat = 2 ∨ i.toNat = 3 ∨ i.toNat = 4 by omega) with q | q | q | q | q <;> rw [q] <;> decide
        have e9 : (256 : Int) ^ 4 = 4294967296 := by decide
        have := hv.2
        omega
      have qdi : ∀ (n : Nat) (i : Int) (p v : Int), ¬ i = 0 → qdP g z n i p v = qdP g z n 1 p v := fun n i p v hi0 => by
        cases n with
        | zero => rfl
        | succ n =>
          show (if i = 0 then _ else _) = (if (1 : Int) = 0 then _ else _)
          rw [if_neg hi0, if_neg (c := (1 : Int) = 0) (by decide)]
      have num : ∀ (N2 : xM) (p2 : Int), N2 r 36 = p2 → (0 ≤ p2 ∧ p2 ≤ z) → (qdP g z 4 0 k 0 = if rnF g z p2 0 255 = 0 then qdP g z (4 - (i + 1)).toNat 1 (rnE g z p2) (256 * v + rnV g z p2) else (rnF g z p2 0 255, 0, 0)) → (∀ b j : Int, ¬ (b = r ∧ 36 ≤ j ∧ j ≤ 39) → N2 b j = M b j) → Ru (d + 4) kMo_readsRule 22 [xO 9 r, xL v, xU, xI i, xU] [] N2 Q := fun N2 p2 m2 hp2 hqq hf2 => by
        have hT2 : RG N2 r g z := RG_fr hT (hf2 _ _ (by omega)) (fun j => hf2 _ _ (by omega))
        refine vMo_readsRule_22 (qMo_readsNumber hT2 m2 hp2.1 hp2.2 (by decide) (by decide) (by decide) (fun N3 f1 o38 o36 o39 hf3 => vMo_readsRule_30 ⟨fun _ => ?_, fun y9 => absurd (by decide) y9⟩) (fun N3 f1 o37 hf3 => vMo_readsRule_30 ⟨fun y9 => absurd rfl y9, fun _ => ?_⟩))
        · rw [if_pos f1] at hqq
          have hrn := rn_ok hT.1 hp2.1 hp2.2 f1
          have hv0 := hv.1
          rw [o38, z32_id (x := i + 1) (by omega) (by omega), z64_id (x := 256 * v) (by omega) (by omega), z64_id (by omega) (by omega)]
          refine ih (i + 1) (by omega) (by omega) N3 _ _ (by omega) o36 (by omega) ⟨by omega, ?_⟩ (by rw [hqq]; exact qdi _ _ _ _ (by omega)) (fun b j hb => by rw [hf3 b j (by omega)]; exact hf2 b j hb)
          rw [show (i + 1).toNat = i.toNat + 1 by omega, Int.pow_succ]
          have := hv.2
          omega
        · rw [if_neg f1] at hqq
          exact bad N3 _ f1 (by rw [eru, hqq, if_neg f1]) o37 (fun b j hb => by rw [hf3 b j (by omega)]; exact hf2 b j hb)
      refine ⟨fun y2 => ?_, fun y2 => ?_⟩
      · rw [if_pos (show i = 0 by omega)] at hq1
        exact num N p e2 hp (by rw [← hq]; exact hq1) hf
      · rw [if_neg (show ¬ i = 0 by omega)] at hq1
        refine qMo_readsSign hTN e2 hp.1 hp.2 (by decide) (fun N2 f0 n2 hf2 => vMo_readsRule_19 ⟨fun y9 => absurd y9 (by decide), fun _ => ?_⟩) (fun N2 f0 n37 hf2 => vMo_readsRule_19 ⟨fun _ => ?_, fun y9 => absurd rfl y9⟩)
        · rw [if_pos f0] at hq1
          have hs := rs_ok hT.1 hp.1 hp.2 (by decide) f0
          exact num N2 _ n2 (by omega) (by rw [← hq]; exact hq1) (fun b j hb => by rw [hf2 b j (by omega)]; exact hf b j hb)
        · rw [if_neg f0] at hq1
          exact bad N2 _ f0 (by rw [eru, ← hq, hq1, if_neg f0]) n37 (fun b j hb => by rw [hf2 b j (by omega)]; exact hf b j hb)
  exact vMo_readsRule_0 (main 0 (by decide) M k 0 (by decide) e ⟨k0, kz⟩ ⟨by decide, by decide⟩ rfl (fun _ _ _ => rfl))
end RuleRef
section Strides
variable (g : Int → Int) (z : Int)
/-- strides that are told: fault, end, how many, which -/
noncomputable def stP : Nat → Int → Int → Int → (Int → Int) → Int × Int × Int × (Int → Int)
  | 0, _, _, _, S => (1, 0, 0, S)
  | f + 1, k, s, c, S => if 48 ≤ g (nxp g z k) ∧ g (nxp g z k) ≤ 57 then (if rnF g z k 2 6 = 0 then (if s + rnV g z k ≤ 32 then stP f (rnE g z k) (s + rnV g z k) (c + 1) (uf S c (rnV g z k)) else (8 * nxp g z k + 2, 0, 0, S)) else (rnF g z k 2 6, 0, 0, S)) else (if s = 32 then (0, nxp g z k, c, S) else (8 * nxp g z k + 1, 0, 0, S))
end Strides
def okS (Z : Int) (S : Int → Int) : Prop := (1 ≤ Z ∧ Z ≤ 16) ∧ (∀ l : Int, 0 ≤ l → l < Z → 2 ≤ S l ∧ S l ≤ 6) ∧ tB S Z.toNat = 32
theorem tB_cg {S S2 : Int → Int} : ∀ n : Nat, (∀ k : Int, 0 ≤ k → k < n → S k = S2 k) → tB S n = tB S2 n
  | 0, _ => rfl
  | n + 1, h => by
    show tB S n + S n = tB S2 n + S2 n
    rw [tB_cg n (fun k k0 k1 => h k k0 (by omega)), h n (by omega) (by omega)]
theorem tB_nx {S : Int → Int} {c : Int} (c0 : 0 ≤ c) : tB S (c + 1).toNat = tB S c.toNat + S c := by
  rw [show (c + 1).toNat = c.toNat + 1 by omega]
  show tB S c.toNat + S (c.toNat : Int) = _
  rw [show (c.toNat : Int) = c by omega]
theorem tB_uf {S : Int → Int} {c v : Int} (c0 : 0 ≤ c) : tB (uf S c v) (c + 1).toNat = tB S c.toNat + v := by
  rw [tB_nx c0, uf_at rfl, tB_cg (S2 := S) c.toNat (fun k k0 k1 => uf_ne (by omega))]
theorem tB_nn {S : Int → Int} : ∀ n : Nat, (∀ k : Int, 0 ≤ k → k < n → 2 ≤ S k ∧ S k ≤ 6) → 2 * (n : Int) ≤ tB S n ∧ tB S n ≤ 6 * n
  | 0, _ => ⟨Int.le_refl _, Int.le_refl _⟩
  | n + 1, h => by
    have ih := tB_nn n (fun k k0 k1 => h k k0 (by omega))
    have := h n (by omega) (by omega)
    show 2 * ((n + 1 : Nat) : Int) ≤ tB S n + S n ∧ tB S n + S n ≤ 6 * ((n + 1 : Nat) : Int)
    omega
section StridesMath
variable {g : Int → Int} {z : Int}
theorem stP_ok (hg : gOK g z) : ∀ (f : Nat) (k s c : Int) (S : Int → Int), 0 ≤ k → k ≤ z → 0 ≤ c → s = tB S c.toNat → (∀ l : Int, 0 ≤ l → l < c → 2 ≤ S l ∧ S l ≤ 6) → (stP g z f k s c S).1 = 0 → (k ≤ (stP g z f k s c S).2.1 ∧ (stP g z f k s c S).2.1 ≤ z) ∧ okS (stP g z f k s c S).2.2.1 (stP g z f k s c S).2.2.2
  | 0, k, s, c, S, _, _, _, _, _, h => absurd (show (1 : Int) = 0 from h) (by decide)
  | f + 1, k, s, c, S, k0, kz, c0, es, hS, h => by
    have e : stP g z (f + 1) k s c S = if 48 ≤ g (nxp g z k) ∧ g (nxp g z k) ≤ 57 then (if rnF g z k 2 6 = 0 then (if s + rnV g z k ≤ 32 then stP g z f (rnE g z k) (s + rnV g z k) (c + 1) (uf S c (rnV g z k)) else (8 * nxp g z k + 2, 0, 0, S)) else (rnF g z k 2 6, 0, 0, S)) else (if s = 32 then (0, nxp g z k, c, S) else (8 * nxp g z k + 1, 0, 0, S)) := rfl
    have hn := nxp_in hg k kz
    by_cases e0 : 48 ≤ g (nxp g z k) ∧ g (nxp g z k) ≤ 57
    · rw [if_pos e0] at e
      by_cases e1 : rnF g z k 2 6 = 0
      · rw [if_pos e1] at e
        have hr := rn_ok hg k0 kz e1
        by_cases e2 : s + rnV g z k ≤ 32
        · rw [if_pos e2] at e
          rw [e] at h ⊢
          have ih := stP_ok hg f (rnE g z k) (s + rnV g z k) (c + 1) (uf S c (rnV g z k)) (by omega) hr.2.2 (by omega) (by rw [tB_uf c0, es]) (fun l l0 l1 => by
            by_cases el : l = c
            · rw [uf_at el]; exact hr.1.2
            · rw [uf_ne el]; exact hS l l0 (by omega)) h
          exact ⟨by omega, ih.2⟩
        · rw [if_neg e2] at e
          rw [e] at h
          have h' : 8 * nxp g z k + 2 = 0 := h
          omega
      · rw [if_neg e1] at e
        rw [e] at h
        exact absurd h e1
    · rw [if_neg e0] at e
      by_cases e1 : s = 32
      · rw [if_pos e1] at e
        rw [e]
        have hb := tB_nn c.toNat (fun k k0 k1 => hS k k0 (by omega))
        exact ⟨⟨hn.1, hn.2.1⟩, ⟨by show 1 ≤ c ∧ c ≤ 16; omega, hS, by show tB S c.toNat = 32; omega⟩⟩
      · rw [if_neg e1] at e
        rw [e] at h
        have h' : 8 * nxp g z k + 1 = 0 := h
        omega
theorem rn_06 (hg : gOK g z) {k : Int} (kz : k ≤ z) (hd : 48 ≤ g (nxp g z k) ∧ g (nxp g z k) ≤ 57) : 0 ≤ rnV g z k ∧ (rnV g z k ≤ 6 → rnF g z k 0 6 = 0) ∧ (¬ rnV g z k ≤ 6 → rnF g z k 0 6 = 8 * nxp g z k + 2) ∧ (2 ≤ rnV g z k ∧ rnV g z k ≤ 6 → rnF g z k 2 6 = 0) ∧ (¬ (2 ≤ rnV g z k ∧ rnV g z k ≤ 6) → rnF g z k 2 6 = 8 * nxp g z k + 2) := by
  have hn := nxp_in hg k kz
  have h0 := dvl_in hg (nxp g z k) hn.2.1 0 (Int.le_refl _)
  refine ⟨h0, fun h => ?_, fun h => ?_, fun h => ?_, fun h => ?_⟩
  · unfold rnF
    rw [if_pos hd]
    exact if_pos ⟨h0, h⟩
  · unfold rnF
    rw [if_pos hd]
    exact if_neg (fun q => h q.2)
  · unfold rnF
    rw [if_pos hd]
    exact if_pos h
  · unfold rnF
    rw [if_pos hd]
    exact if_neg h
end StridesMath
section StridesClass
variable {d : Nat} {M : xM} {Q : xQ} {a t : Int} {g : Int → Int} {z : Int}
theorem qTape_readStrides {k : Int} (hap : a + 1 < t ∨ t + 6 < a) (hT : TG M a g z) (e : M a 2 = k) (k0 : 0 ≤ k) (kz : k ≤ z) (e3 : M a 3 = 0) (h : ∀ N : xM, N a 3 = (stP g z 40 k 0 0 (fun _ => 0)).1 → (0 ≤ N a 2 ∧ N a 2 ≤ z) → ((stP g z 40 k 0 0 (fun _ => 0)).1 = 0 → N a 2 = (stP g z 40 k 0 0 (fun _ => 0)).2.1 ∧ N t 6 = (stP g z 40 k 0 0 (fun _ => 0)).2.2.1 ∧ ∀ i : Int, 0 ≤ i → i < (stP g z 40 k 0 0 (fun _ => 0)).2.2.1 → N (t + 6) i = (stP g z 40 k 0 0 (fun _ => 0)).2.2.2 i) → (∀ b j : Int, ¬ (b = a ∧ (j = 2 ∨ j = 3)) → ¬ (b = t ∧ j = 6) → ¬ b = t + 6 → N b j = M b j) → Q xU N) : Ru (d + 3) kTape_readStrides 0 [xO 7 a, xO 6 t, xU, xU, xU, xU, xU] [] M Q := by
  have hz := hT.1.1
  generalize hX : stP g z 40 k 0 0 (fun _ => 0) = X at h
  refine vTape_readStrides_0 ?_
  -- a fault stands
  have dead : ∀ (N : xM) (s c i : Int) (w5 w6 : xV), ¬ N a 3 = 0 → N a 3 = X.1 → (0 ≤ N a 2 ∧ N a 2 ≤ z) → (∀ b j : Int, ¬ (b = a ∧ (j = 2 ∨ j = 3)) → ¬ (b = t ∧ j = 6) → ¬ b = t + 6 → N b j = M b j) → Ru (d + 3) kTape_readStrides 7 [xO 7 a, xO 6 t, xI s, xI c, xI i, w5, w6] [] N Q := fun N s c i w5 w6 f0 fX hp hf => by
    have fin : Ru (d + 3) kTape_readStrides 125 [xO 7 a, xO 6 t, xI s, xI c, xI i, w5, w6] [] N Q := vTape_readStrides_125 (h _ (by rw [up_un (by omega)]; exact fX) (by rw [up_un (by omega)]; exact hp) (fun q => absurd (by rw [fX]; exact q) f0) (fun b j h7 h8 h9 => by rw [up_un (by omega)]; exact hf b j h7 h8 h9))
    have fl : Ru (d + 2) kTape_fail 0 [xO 7 a, xI (N a 2), xI 1] [] N (fun r N => Ru (d + 3) kTape_readStrides 125 [xO 7 a, xO 6 t, xI s, xI c, xI i, w5, w6] [] N Q) := qTape_fail hp.1 (by omega) (by decide) (by decide) (fun _ => fin) (fun q => absurd q f0)
    exact vTape_readStrides_7 ⟨fun _ => ⟨fun _ => fin, fun _ => fl⟩, fun _ => ⟨fun _ => ⟨fun _ => fin, fun _ => fl⟩, fun q => absurd f0 q⟩⟩
  have main : ∀ s : Int, s ≤ 32 → ∀ (N : xM) (p c : Int) (S : Int → Int) (f : Nat) (w5 w6 : xV), 0 ≤ c → 2 * c ≤ s → N a 2 = p → N a 3 = 0 → (0 ≤ p ∧ p ≤ z) → 33 ≤ f + s → stP g z f p s c S = X → (∀ i : Int, 0 ≤ i → i < c → N (t + 6) i = S i) → (∀ b j : Int, ¬ (b = a ∧ (j = 2 ∨ j = 3)) → ¬ (b = t ∧ j = 6) → ¬ b = t + 6 → N b j = M b j) → Ru (d + 3) kTape_readStrides 7 [xO 7 a, xO 6 t, xI s, xI c, xI c, w5, w6] [] N Q := by
    refine loop_up 32 (fun s hs ih N p c S f w5 w6 c0 c2 e2 e33 hp hfu hst hS hf => ?_)
    have hTN : TG N a g z := TG_fr hT (hf _ _ (by omega) (by omega) (by omega)) (fun j => hf _ _ (by omega) (by omega) (by omega))
    have hn := nxp_in hT.1 p hp.2
    obtain ⟨f', rfl⟩ : ∃ f' : Nat, f = f' + 1 := ⟨f - 1, by omega⟩
    have est : X = if 48 ≤ g (nxp g z p) ∧ g (nxp g z p) ≤ 57 then (if rnF g z p 2 6 = 0 then (if s + rnV g z p ≤ 32 then stP g z f' (rnE g z p) (s + rnV g z p) (c + 1) (uf S c (rnV g z p)) else (8 * nxp g z p + 2, 0, 0, S)) else (rnF g z p 2 6, 0, 0, S)) else (if s = 32 then (0, nxp g z p, c, S) else (8 * nxp g z p + 1, 0, 0, S)) := hst.symm
    refine vTape_readStrides_7 ⟨fun y => by omega, fun y => ⟨fun q => absurd e33 q, fun _ => qTape_nextSign hTN e2 hp.1 hp.2 (fun N2 n2 hf2 => vTape_readStrides_26 ?_)⟩⟩
    have hf2M : ∀ b j : Int, ¬ (b = a ∧ (j = 2 ∨ j = 3)) → ¬ (b = t ∧ j = 6) → ¬ b = t + 6 → N2 b j = M b j := fun b j h7 h8 h9 => by rw [hf2 b j (by omega)]; exact hf b j h7 h8 h9
    have hT2 : TG N2 a g z := TG_fr hTN (hf2 _ _ (by omega)) (fun j => hf2 _ _ (by omega))
    have e23 : N2 a 3 = 0 := by rw [hf2 _ _ (by omega)]; exact e33
    have hS2 : ∀ i : Int, 0 ≤ i → i < c → N2 (t + 6) i = S i := fun i i0 i1 => by rw [hf2 _ _ (by omega)]; exact hS i i0 i1
    refine qTape_isDigit (fun hd => vTape_readStrides_29 ⟨fun q => absurd q (by decide), fun _ => ?_⟩) (fun hd => vTape_readStrides_29 ⟨fun _ => ⟨fun q => ?_, fun q => ?_⟩, fun q => absurd rfl q⟩)
    · rw [if_pos (show 48 ≤ g (nxp g z p) ∧ g (nxp g z p) ≤ 57 from hd)] at est
      obtain ⟨v0, r1, r2, r3, r4⟩ := rn_06 hT.1 hp.2 hd
      have ii := nxp_i hT.1 hp.2
      have iF : rnF g z (nxp g z p) 0 6 = rnF g z p 0 6 := by unfold rnF; rw [ii]
      have iV : rnV g z (nxp g z p) = rnV g z p := by unfold rnV; rw [ii]
      have iE : rnE g z (nxp g z p) = rnE g z p := by unfold rnE; rw [ii]
      rw [n2]
      refine qTape_readNumber hT2 n2 (by omega) hn.2.1 (by decide) (by decide) e23 (fun N3 v o3 o2 o22 hf3 => vTape_readStrides_44 ?_)
      rw [iF] at o3 o22
      rw [iV, iE] at o22
      have hf3M : ∀ b j : Int, ¬ (b = a ∧ (j = 2 ∨ j = 3)) → ¬ (b = t ∧ j = 6) → ¬ b = t + 6 → N3 b j = M b j := fun b j h7 h8 h9 => by rw [hf3 b j (by omega)]; exact hf2M b j h7 h8 h9
      have hT3 : TG N3 a g z := TG_fr hT2 (hf3 _ _ (by omega)) (fun j => hf3 _ _ (by omega))
      by_cases v6 : rnV g z p ≤ 6
      · rw [r1 v6] at o3
        obtain ⟨ev, e24⟩ := o22 (r1 v6)
        subst ev
        -- a stride that can't be
        have bad : X.1 = 8 * nxp g z p + 2 → Ru (d + 3) kTape_readStrides 74 [xO 7 a, xO 6 t, xI s, xI c, xI c, xI (nxp g z p), xI (rnV g z p)] [] N3 Q := fun hb => by
          refine vTape_readStrides_74 (qTape_fail (by omega) (by omega) (by decide) (by decide) (fun q => absurd o3 q) (fun _ => vTape_readStrides_81 ⟨fun _ => ?_, fun q => absurd (by rw [up_same]; omega) q⟩))
          exact dead _ _ _ _ _ _ (by rw [up_same]; omega) (by rw [up_same, hb]) (by rw [up_un (by omega)]; exact o2) (fun b j h7 h8 h9 => by rw [up_un (by omega)]; exact hf3M b j h7 h8 h9)
        rw [z32_id (x := s + rnV g z p) (by omega) (by omega)]
        refine ⟨fun q => absurd o3 q, fun _ => ⟨fun q => bad ?_, fun q => ⟨fun q2 => bad ?_, fun q2 => ⟨fun _ => vTape_readStrides_81 ⟨fun q3 => absurd o3 q3, fun _ => ⟨by omega, ?_⟩⟩, fun q3 => by omega⟩⟩⟩⟩
        · rw [est, if_neg (by rw [r4 (by omega)]; omega)]
          exact r4 (by omega)
        · rw [est, if_pos (r3 ⟨by omega, v6⟩), if_neg (by omega)]
        · rw [if_pos (r3 ⟨by omega, v6⟩), if_pos (show s + rnV g z p ≤ 32 by omega)] at est
          rw [z32_id (x := s + rnV g z p) (by omega) (by omega), z32_id (x := c + 1) (by omega) (by omega)]
          have hrn := rn_ok hT.1 hp.1 hp.2 (r1 v6)
          refine ih (s + rnV g z p) (by omega) (by omega) _ (rnE g z p) (c + 1) (uf S c (rnV g z p)) f' _ _ (by omega) (by omega) (by rw [up_un (by omega)]; exact e24) (by rw [up_un (by omega)]; exact o3) (by omega) (by omega) est.symm (fun i i0 i1 => ?_) (fun b j h7 h8 h9 => by rw [up_un (by omega)]; exact hf3M b j h7 h8 h9)
          by_cases ei : i = c
          · rw [ei, up_same, uf_at rfl]
          · rw [up_off ei, uf_ne ei, hf3 _ _ (by omega)]
            exact hS2 i i0 (by omega)
      · rw [r2 v6] at o3
        have hX1 : X.1 = 8 * nxp g z p + 2 := by
          rw [est, if_neg (by rw [r4 (by omega)]; omega)]
          exact r4 (by omega)
        have o3' : ¬ N3 a 3 = 0 := by omega
        refine ⟨fun _ => vTape_readStrides_81 ⟨fun _ => ?_, fun q => absurd o3' q⟩, fun q => absurd o3' q⟩
        exact dead N3 _ _ _ _ _ o3' (by rw [o3, hX1]) o2 hf3M
    · rw [if_neg (show ¬ (48 ≤ g (nxp g z p) ∧ g (nxp g z p) ≤ 57) from hd), if_pos q] at est
      have eX1 : X.1 = 0 := by rw [est]
      refine vTape_readStrides_125 (h _ (by rw [up_un (by omega), eX1]; exact e23) (by rw [up_un (by omega), n2]; omega) (fun _ => ⟨by rw [up_un (by omega), n2, est], by rw [up_same, est], fun i i0 i1 => ?_⟩) (fun b j h7 h8 h9 => by rw [up_un (by omega)]; exact hf2M b j h7 h8 h9))
      rw [est] at i1 ⊢
      rw [up_un (by omega)]
      exact hS2 i i0 i1
    · rw [if_neg (show ¬ (48 ≤ g (nxp g z p) ∧ g (nxp g z p) ≤ 57) from hd), if_neg q] at est
      have eX1 : X.1 = 8 * nxp g z p + 1 := by rw [est]
      rw [n2]
      refine qTape_fail (by omega) (by omega) (by decide) (by decide) (fun q => absurd e23 q) (fun _ => vTape_readStrides_125 (h _ (by rw [up_un (by omega), up_same, eX1]) (by rw [up_un (by omega), up_un (by omega), n2]; omega) (fun q9 => by omega) (fun b j h7 h8 h9 => by rw [up_un (by omega), up_un (by omega)]; exact hf2M b j h7 h8 h9)))
  exact main 0 (by decide) M k 0 (fun _ => 0) 40 _ _ (by decide) (by decide) e e3 ⟨k0, kz⟩ (by decide) hX (fun i i0 i1 => by omega) (fun _ _ _ _ _ => rfl)
end StridesClass
section StridesRef
variable {d : Nat} {M : xM} {Q : xQ} {r : Int} {g : Int → Int} {z : Int}
theorem qMo_addsStride {c v : Int} {S : Int → Int} (ec : M r 32 = c) (c0 : 0 ≤ c) (c1 : c ≤ 20) (hS : ∀ i : Int, 0 ≤ i → i < c → M (r + 21) i = S i ∧ 2 ≤ S i ∧ S i ≤ 6) (v0 : 0 ≤ v) (v1 : v ≤ 9) (h1 : (2 ≤ v ∧ v ≤ 6) → tB S c.toNat + v ≤ 32 → Q (xI 1) (up (up M (r + 21) c v) r 32 (c + 1))) (h0 : ¬ ((2 ≤ v ∧ v ≤ 6) ∧ tB S c.toNat + v ≤ 32) → Q (xI 0) M) : Ru (d + 1) kMo_addsStride 0 [xO 9 r, xI v, xU, xU] [] M Q := by
  refine vMo_addsStride_0 ?_
  have e0 : v = v + tB S (0 : Int).toNat := by show v = v + 0; omega
  have main : ∀ i : Int, i ≤ c → 0 ≤ i → Ru (d + 1) kMo_addsStride 4 [xO 9 r, xI v, xI (v + tB S i.toNat), xI i] [] M Q := by
    refine loop_up c (fun i hi ih i0 => ?_)
    have hb := tB_nn i.toNat (S := S) (fun k k0 k1 => (hS k k0 (by omega)).2)
    refine vMo_addsStride_4 ?_
    rw [ec]
    refine ⟨fun y => ?_, fun y => ⟨by omega, ?_⟩⟩
    · have ei : i = c := by omega
      subst ei
      refine qMo_isIn (fun x2 y2 => vMo_addsStride_38 ⟨fun q => absurd q (by decide), fun _ => ⟨fun q => ?_, fun q => h0 (fun q2 => by omega)⟩⟩) (fun x2 => vMo_addsStride_38 ⟨fun _ => h0 (fun q2 => x2 q2.1), fun q => absurd rfl q⟩)
      rw [ec, up_un (by omega), ec, z32_id (by omega) (by omega)]
      exact ⟨by omega, h1 ⟨x2, y2⟩ (by omega)⟩
    · have hSi := hS i i0 (by omega)
      rw [hSi.1, z32_id (x := i + 1) (by omega) (by omega), z32_id (by omega) (by omega)]
      have ih' := ih (i + 1) (by omega) (by omega) (by omega)
      rw [tB_nx i0] at ih'
      rw [Int.add_assoc]
      exact ih'
  have := main 0 c0 (by decide)
  rw [← e0] at this
  exact this
theorem qMo_strideSum {c : Int} {S : Int → Int} (ec : M r 32 = c) (c0 : 0 ≤ c) (c1 : c ≤ 20) (hS : ∀ i : Int, 0 ≤ i → i < c → M (r + 21) i = S i ∧ 2 ≤ S i ∧ S i ≤ 6) (h : Q (xI (tB S c.toNat)) M) : Ru d kMo_strideSum 0 [xO 9 r, xU, xU] [] M Q := by
  refine vMo_strideSum_0 (loop_up c (P := fun i => 0 ≤ i → Ru d kMo_strideSum 4 [xO 9 r, xI (tB S i.toNat), xI i] [] M Q) (fun i hi ih i0 => ?_) 0 c0 (by decide))
  have hb := tB_nn i.toNat (S := S) (fun k k0 k1 => (hS k k0 (by omega)).2)
  refine vMo_strideSum_4 ?_
  rw [ec]
  refine ⟨fun y => ?_, fun y => ⟨by omega, ?_⟩⟩
  · have ei : i = c := by omega
    subst ei
    exact h
  · have hSi := hS i i0 (by omega)
    rw [hSi.1, z32_id (x := i + 1) (by omega) (by omega), z32_id (by omega) (by omega)]
    have ih' := ih (i + 1) (by omega) (by omega) (by omega)
    rw [tB_nx i0] at ih'
    exact ih'
theorem qMo_readsStrides {k : Int} (hT : RG M r g z) (e : M r 36 = k - 7) (k0 : 7 ≤ k) (kz : k ≤ z) (h1 : ∀ N : xM, (stP g z 40 k 0 0 (fun _ => 0)).1 = 0 → N r 36 = (stP g z 40 k 0 0 (fun _ => 0)).2.1 → N r 32 = (stP g z 40 k 0 0 (fun _ => 0)).2.2.1 → (∀ i : Int, 0 ≤ i → i < (stP g z 40 k 0 0 (fun _ => 0)).2.2.1 → N (r + 21) i = (stP g z 40 k 0 0 (fun _ => 0)).2.2.2 i) → (∀ b j : Int, ¬ (b = r ∧ (j = 32 ∨ (36 ≤ j ∧ j ≤ 39))) → ¬ b = r + 21 → N b j = M b j) → Q (xI 1) N) (h0 : ∀ N : xM, ¬ (stP g z 40 k 0 0 (fun _ => 0)).1 = 0 → N r 37 = (stP g z 40 k 0 0 (fun _ => 0)).1 → (∀ b j : Int, ¬ (b = r ∧ (j = 32 ∨ (36 ≤ j ∧ j ≤ 39))) → ¬ b = r + 21 → N b j = M b j) → Q (xI 0) N) : Ru (d + 4) kMo_readsStrides 0 [xO 9 r, xU] [] M Q := by
  have hz := hT.1.1
  generalize hX : stP g z 40 k 0 0 (fun _ => 0) = X at h1 h0
  refine vMo_readsStrides_0 ?_
  rw [e, show k - 7 + 7 = k by omega, z32_id (by omega) (by omega)]
  have main : ∀ s : Int, s ≤ 32 → ∀ (N : xM) (p c : Int) (S : Int → Int) (f : Nat), 0 ≤ c → 2 * c ≤ s → N r 36 = p → N r 32 = c → (0 ≤ p ∧ p ≤ z) → 33 ≤ f + s → s = tB S c.toNat → (s < 32 ∨ dig (g (nxp g z p))) → stP g z f p s c S = X → (∀ i : Int, 0 ≤ i → i < c → N (r + 21) i = S i ∧ 2 ≤ S i ∧ S i ≤ 6) → (∀ b j : Int, ¬ (b = r ∧ (j = 32 ∨ (36 ≤ j ∧ j ≤ 39))) → ¬ b = r + 21 → N b j = M b j) → Ru (d + 4) kMo_readsStrides 18 [xO 9 r, xI 1] [] N Q := by
    refine loop_up 32 (fun s hs ih N p c S f c0 c2 e2 e32 hp hfu es hmo hst hS hf => ?_)
    have hTN : RG N r g z := RG_fr hT (hf _ _ (by omega) (by omega)) (fun j => hf _ _ (by omega) (by omega))
    have hn := nxp_in hT.1 p hp.2
    obtain ⟨f', rfl⟩ : ∃ f' : Nat, f = f' + 1 := ⟨f - 1, by omega⟩
    have est : X = if 48 ≤ g (nxp g z p) ∧ g (nxp g z p) ≤ 57 then (if rnF g z p 2 6 = 0 then (if s + rnV g z p ≤ 32 then stP g z f' (rnE g z p) (s + rnV g z p) (c + 1) (uf S c (rnV g z p)) else (8 * nxp g z p + 2, 0, 0, S)) else (rnF g z p 2 6, 0, 0, S)) else (if s = 32 then (0, nxp g z p, c, S) else (8 * nxp g z p + 1, 0, 0, S)) := hst.symm
    refine vMo_readsStrides_18 ⟨fun q => absurd q (by decide), fun _ => ?_⟩
    refine qMo_readsNumber hTN e2 hp.1 hp.2 (by decide) (by decide) (by decide) (fun N2 f1 o38 o36 o39 hf2 => vMo_readsStrides_29 ⟨fun _ => ?_, fun q => absurd (by decide) q⟩) (fun N2 f1 o37 hf2 => vMo_readsStrides_29 ⟨fun q => absurd rfl q, fun _ => ?_⟩)
    · have hrn := rn_ok hT.1 hp.1 hp.2 f1
      rw [if_pos (show 48 ≤ g (nxp g z p) ∧ g (nxp g z p) ≤ 57 from hrn.1.1), if_pos f1] at est
      have hf2M : ∀ b j : Int, ¬ (b = r ∧ (j = 32 ∨ (36 ≤ j ∧ j ≤ 39))) → ¬ b = r + 21 → N2 b j = M b j := fun b j h7 h8 => by rw [hf2 b j (by omega)]; exact hf b j h7 h8
      have hS2 : ∀ i : Int, 0 ≤ i → i < c → N2 (r + 21) i = S i ∧ 2 ≤ S i ∧ S i ≤ 6 := fun i i0 i1 => by rw [hf2 _ _ (by omega)]; exact hS i i0 i1
      rw [o38]
      refine qMo_addsStride (by rw [hf2 _ _ (by omega)]; exact e32) c0 (by omega) hS2 (by omega) (by omega) (fun q1 q2 => vMo_readsStrides_42 ⟨fun _ => ?_, fun q => absurd (by decide) q⟩) (fun q => vMo_readsStrides_42 ⟨fun q9 => absurd rfl q9, fun _ => ?_⟩)
      · rw [if_pos (show s + rnV g z p ≤ 32 by omega)] at est
        generalize hN3 : up (up N2 (r + 21) c (rnV g z p)) r 32 (c + 1) = N3
        have f32 : N3 r 32 = c + 1 := by rw [← hN3, up_same]
        have f36 : N3 r 36 = rnE g z p := by rw [← hN3, up_un (by omega), up_un (by omega)]; exact o36
        have hf3M : ∀ b j : Int, ¬ (b = r ∧ (j = 32 ∨ (36 ≤ j ∧ j ≤ 39))) → ¬ b = r + 21 → N3 b j = M b j := fun b j h7 h8 => by rw [← hN3, up_un (by omega), up_un (by omega)]; exact hf2M b j h7 h8
        have hS3 : ∀ i : Int, 0 ≤ i → i < c + 1 → N3 (r + 21) i = uf S c (rnV g z p) i ∧ 2 ≤ uf S c (rnV g z p) i ∧ uf S c (rnV g z p) i ≤ 6 := fun i i0 i1 => by
          rw [← hN3, up_un (by omega)]
          by_cases ei : i = c
          · rw [ei, up_same, uf_at rfl]; exact ⟨rfl, q1⟩
          · rw [up_off ei, uf_ne ei]; exact hS2 i i0 (by omega)
        have hT3 : RG N3 r g z := RG_fr hT (hf3M _ _ (by omega) (by omega)) (fun j => hf3M _ _ (by omega) (by omega))
        refine qMo_strideSum f32 (by omega) (by omega) hS3 (vMo_readsStrides_59 ?_)
        have esum : tB (uf S c (rnV g z p)) (c + 1).toNat = s + rnV g z p := by rw [tB_uf c0, es]
        rw [esum]
        refine ⟨fun y => ?_, fun y => qMo_isDigitNext hT3 f36 (by omega) hrn.2.2 (fun N4 hd m36 hf4 => vMo_readsStrides_68 ⟨fun q => absurd q (by decide), fun _ => ?_⟩) (fun N4 hd m36 hf4 => vMo_readsStrides_68 ⟨fun _ => vMo_readsStrides_18 ⟨fun _ => ?_, fun q => absurd rfl q⟩, fun q => absurd rfl q⟩)⟩
        · exact ih (s + rnV g z p) (by omega) (by omega) N3 _ _ _ f' (by omega) (by omega) f36 f32 (by omega) (by omega) esum.symm (Or.inl y) est.symm hS3 hf3M
        · have ii := nxp_i hT.1 hrn.2.2
          have hn3 := nxp_in hT.1 (rnE g z p) hrn.2.2
          have est2 : stP g z f' (nxp g z (rnE g z p)) (s + rnV g z p) (c + 1) (uf S c (rnV g z p)) = X := by
            rw [est]
            cases f' with
            | zero => omega
            | succ f2 =>
              show (if 48 ≤ g (nxp g z (nxp g z (rnE g z p))) ∧ _ then _ else _) = (if 48 ≤ g (nxp g z (rnE g z p)) ∧ _ then _ else _)
              have iF : rnF g z (nxp g z (rnE g z p)) 2 6 = rnF g z (rnE g z p) 2 6 := by unfold rnF; rw [ii]
              have iV : rnV g z (nxp g z (rnE g z p)) = rnV g z (rnE g z p) := by unfold rnV; rw [ii]
              have iE : rnE g z (nxp g z (rnE g z p)) = rnE g z (rnE g z p) := by
                show dge g z (nxp g z (nxp g z (rnE g z p))) = dge g z (nxp g z (rnE g z p))
                rw [ii]
              rw [ii, iF, iV, iE]
          exact ih (s + rnV g z p) (by omega) (by omega) N4 _ _ _ f' (by omega) (by omega) m36 (by rw [hf4 _ _ (by omega)]; exact f32) (by omega) (by omega) esum.symm (Or.inr (by rw [ii]; exact hd)) est2 (fun i i0 i1 => by rw [hf4 _ _ (by omega)]; exact hS3 i i0 i1) (fun b j h7 h8 => by rw [hf4 b j (by omega)]; exact hf3M b j h7 h8)
        · have es32 : s + rnV g z p = 32 := by omega
          obtain ⟨f2, rfl⟩ : ∃ f2 : Nat, f' = f2 + 1 := ⟨f' - 1, by omega⟩
          have est3 : X = (0, nxp g z (rnE g z p), c + 1, uf S c (rnV g z p)) := by
            rw [est]
            show (if 48 ≤ g (nxp g z (rnE g z p)) ∧ g (nxp g z (rnE g z p)) ≤ 57 then _ else _) = _
            rw [if_neg (show ¬ (48 ≤ g (nxp g z (rnE g z p)) ∧ g (nxp g z (rnE g z p)) ≤ 57) from hd), if_pos es32]
          refine h1 N4 (by rw [est3]) (by rw [est3]; exact m36) (by rw [est3, hf4 _ _ (by omega)]; exact f32) (fun i i0 i1 => ?_) (fun b j h7 h8 => by rw [hf4 b j (by omega)]; exact hf3M b j h7 h8)
          rw [est3] at i1 ⊢
          rw [hf4 _ _ (by omega)]
          exact (hS3 i i0 i1).1
      · rw [if_neg (show ¬ s + rnV g z p ≤ 32 by omega)] at est
        rw [o39]
        refine qMo_fails (by omega) (by omega) (by decide) (by decide) (vMo_readsStrides_54 (h0 _ (by rw [est]; show ¬ 8 * nxp g z p + 2 = 0; omega) (by rw [est, up_same]) (fun b j h7 h8 => by rw [up_un (by omega)]; exact hf2M b j h7 h8)))
    · have eX : X.1 = rnF g z p 2 6 := by
        by_cases hd : 48 ≤ g (nxp g z p) ∧ g (nxp g z p) ≤ 57
        · rw [if_pos hd, if_neg f1] at est
          rw [est]
        · have hs32 : ¬ s = 32 := by
            rcases hmo with q | q
            · omega
            · exact absurd q hd
          rw [if_neg hd, if_neg hs32] at est
          rw [est]
          exact (if_neg hd).symm
      exact h0 N2 (by rw [eX]; exact f1) (by rw [eX]; exact o37) (fun b j h7 h8 => by rw [hf2 b j (by omega)]; exact hf b j h7 h8)
  exact main 0 (by decide) _ k 0 (fun _ => 0) 40 (by decide) (by decide) (by rw [up_un (by omega), up_same]) up_same (by omega) (by decide) rfl (Or.inl (by decide)) hX (fun i i0 i1 => by omega) (fun b j h7 h8 => by rw [up_un (by omega), up_un (by omega)])
end StridesRef

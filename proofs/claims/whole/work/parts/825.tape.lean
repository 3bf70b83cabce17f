/-! THE TEXT ON THE TAPE: what it says; small readings in both. -/
def dig (c : Int) : Prop := 48 ≤ c ∧ c ≤ 57
noncomputable def skp (g : Int → Int) : Nat → Int → Int
  | 0, k => k
  | f + 1, k => if g k = 32 then skp g f (k + 1) else k
noncomputable def nxp (g : Int → Int) (z k : Int) : Int := skp g (z - k).toNat k
noncomputable def dgs (g : Int → Int) : Nat → Int → Int
  | 0, k => k
  | f + 1, k => if 48 ≤ g k ∧ g k ≤ 57 then dgs g f (k + 1) else k
noncomputable def dge (g : Int → Int) (z k : Int) : Int := dgs g (z - k).toNat k
noncomputable def dvs (g : Int → Int) : Nat → Int → Int → Int
  | 0, _, v => v
  | f + 1, k, v => if 48 ≤ g k ∧ g k ≤ 57 then dvs g f (k + 1) (10 * v + g k - 48) else v
noncomputable def dvl (g : Int → Int) (z k v : Int) : Int := dvs g (z - k).toNat k v
/-- signs: bytes, none behind the end -/
def gOK (g : Int → Int) (z : Int) : Prop := (0 ≤ z ∧ z ≤ 400) ∧ (∀ j : Int, z ≤ j → g j = -1) ∧ ∀ j : Int, 0 ≤ j → j < z → 0 ≤ g j ∧ g j ≤ 255
section TextMath
variable {g : Int → Int} {z : Int}
theorem nxp_n {k : Int} (h : ¬ g k = 32) : nxp g z k = k := by
  unfold nxp
  cases (z - k).toNat with
  | zero => rfl
  | succ f => exact if_neg h
theorem nxp_b (hg : gOK g z) {k : Int} (h : g k = 32) : k < z ∧ nxp g z k = nxp g z (k + 1) := by
  have kz : k < z := by
    refine Classical.byContradiction fun q => ?_
    have := hg.2.1 k (by omega)
    omega
  refine ⟨kz, ?_⟩
  unfold nxp
  rw [show (z - k).toNat = (z - (k + 1)).toNat + 1 by omega]
  exact if_pos h
theorem nxp_in (hg : gOK g z) : ∀ k : Int, k ≤ z → k ≤ nxp g z k ∧ nxp g z k ≤ z ∧ ¬ g (nxp g z k) = 32 := by
  refine loop_up z (fun k kz ih => ?_)
  by_cases e : g k = 32
  · obtain ⟨e1, e2⟩ := nxp_b hg e
    have := ih (k + 1) (by omega) (by omega)
    rw [e2]
    exact ⟨by omega, this.2.1, this.2.2⟩
  · rw [nxp_n e]
    exact ⟨Int.le_refl _, kz, e⟩
theorem nxp_i (hg : gOK g z) {k : Int} (h : k ≤ z) : nxp g z (nxp g z k) = nxp g z k := nxp_n (nxp_in hg k h).2.2
theorem dig_z (hg : gOK g z) {k : Int} (h : dig (g k)) : k < z := by
  refine Classical.byContradiction fun q => ?_
  have := hg.2.1 k (by omega)
  have := h.1
  omega
theorem dge_n {k : Int} (h : ¬ dig (g k)) : dge g z k = k := by
  unfold dge
  cases (z - k).toNat with
  | zero => rfl
  | succ f => exact if_neg h
theorem dge_y (hg : gOK g z) {k : Int} (h : dig (g k)) : dge g z k = dge g z (k + 1) := by
  have kz := dig_z hg h
  unfold dge
  rw [show (z - k).toNat = (z - (k + 1)).toNat + 1 by omega]
  exact if_pos h
theorem dvl_n {k v : Int} (h : ¬ dig (g k)) : dvl g z k v = v := by
  unfold dvl
  cases (z - k).toNat with
  | zero => rfl
  | succ f => exact if_neg h
theorem dvl_y (hg : gOK g z) {k v : Int} (h : dig (g k)) : dvl g z k v = dvl g z (k + 1) (10 * v + g k - 48) := by
  have kz := dig_z hg h
  unfold dvl
  rw [show (z - k).toNat = (z - (k + 1)).toNat + 1 by omega]
  exact if_pos h
theorem dge_in (hg : gOK g z) : ∀ k : Int, k ≤ z → k ≤ dge g z k ∧ dge g z k ≤ z := by
  refine loop_up z (fun k kz ih => ?_)
  by_cases e : dig (g k)
  · have := ih (k + 1) (by omega) (by have := dig_z hg e; omega)
    rw [dge_y hg e]
    omega
  · rw [dge_n e]; omega
theorem dvl_in (hg : gOK g z) : ∀ k : Int, k ≤ z → ∀ v : Int, 0 ≤ v → v ≤ dvl g z k v := by
  refine loop_up z (fun k kz ih v v0 => ?_)
  by_cases e : dig (g k)
  · have h1 := e.1
    have := ih (k + 1) (by omega) (by have := dig_z hg e; omega) (10 * v + g k - 48) (by omega)
    rw [dvl_y hg e]
    omega
  · rw [dvl_n e]; omega
/-- a number that must stand next: its fault, value, end -/
noncomputable def rnF (g : Int → Int) (z k lo hi : Int) : Int := if 48 ≤ g (nxp g z k) ∧ g (nxp g z k) ≤ 57 then (if lo ≤ dvl g z (nxp g z k) 0 ∧ dvl g z (nxp g z k) 0 ≤ hi then 0 else 8 * nxp g z k + 2) else 8 * nxp g z k + 1
noncomputable def rnV (g : Int → Int) (z k : Int) : Int := dvl g z (nxp g z k) 0
noncomputable def rnE (g : Int → Int) (z k : Int) : Int := dge g z (nxp g z k)
theorem rn_ok (hg : gOK g z) {k lo hi : Int} (k0 : 0 ≤ k) (kz : k ≤ z) (h : rnF g z k lo hi = 0) : (dig (g (nxp g z k)) ∧ lo ≤ rnV g z k ∧ rnV g z k ≤ hi) ∧ k < rnE g z k ∧ rnE g z k ≤ z := by
  have hn := nxp_in hg k kz
  unfold rnF at h
  by_cases e : 48 ≤ g (nxp g z k) ∧ g (nxp g z k) ≤ 57
  · rw [if_pos e] at h
    by_cases e2 : lo ≤ dvl g z (nxp g z k) 0 ∧ dvl g z (nxp g z k) 0 ≤ hi
    · have kz2 := dig_z hg (k := nxp g z k) e
      have := dge_in hg (nxp g z k + 1) (by omega)
      rw [← dge_y hg e] at this
      refine ⟨⟨e, e2⟩, ?_, this.2⟩
      show k < dge g z (nxp g z k)
      omega
    · rw [if_neg e2] at h
      omega
  · rw [if_neg e] at h
    omega
/-- a sign that must stand next -/
noncomputable def rsF (g : Int → Int) (z k c : Int) : Int := if g (nxp g z k) = c then 0 else 8 * nxp g z k + 1
theorem rs_ok (hg : gOK g z) {k c : Int} (k0 : 0 ≤ k) (kz : k ≤ z) (c0 : 0 ≤ c) (h : rsF g z k c = 0) : g (nxp g z k) = c ∧ k < nxp g z k + 1 ∧ nxp g z k + 1 ≤ z := by
  have hn := nxp_in hg k kz
  unfold rsF at h
  by_cases e : g (nxp g z k) = c
  · refine ⟨e, by omega, ?_⟩
    refine Classical.byContradiction fun q => ?_
    have := hg.2.1 (nxp g z k) (by omega)
    omega
  · rw [if_neg e] at h
    omega
def isW (g : Int → Int) (y : Int) : Prop := (∀ i : Int, 0 ≤ i → i < 7 → g (y + i) = strv i) ∧ ¬ (97 ≤ g (y + 7) ∧ g (y + 7) ≤ 122)
end TextMath
def TG (M : xM) (a : Int) (g : Int → Int) (z : Int) : Prop := gOK g z ∧ M a 0 = z ∧ ∀ j : Int, 0 ≤ j → j < z → M (a + 1) j = g j
def RG (M : xM) (r : Int) (g : Int → Int) (z : Int) : Prop := gOK g z ∧ M r 35 = z ∧ ∀ j : Int, 0 ≤ j → j < z → iand (M (r + 22) j) 255 = g j
section TapeClass
variable {d : Nat} {M : xM} {Q : xQ} {a : Int} {g : Int → Int} {z : Int}
theorem TG_fr {N : xM} (h : TG M a g z) (e0 : N a 0 = M a 0) (e : ∀ j : Int, N (a + 1) j = M (a + 1) j) : TG N a g z := ⟨h.1, by rw [e0]; exact h.2.1, fun j j0 j1 => by rw [e]; exact h.2.2 j j0 j1⟩
theorem qTape_signAt {k : Int} (hT : TG M a g z) (k0 : 0 ≤ k) (h : Q (xI (g k)) M) : Ru d kTape_signAt 0 [xO 7 a, xI k] [] M Q := by
  have hz := hT.1.1
  refine vTape_signAt_0 ⟨fun y => by omega, fun y => ?_⟩
  rw [hT.2.1]
  refine ⟨fun y2 => ?_, fun y2 => ⟨fun y3 => by omega, fun y3 => ⟨by omega, ?_⟩⟩⟩
  · rw [hT.1.2.1 k y2] at h; exact h
  · rw [hT.2.2 k k0 (by omega)]; exact h
theorem qTape_isDigit {c : Int} (h1 : dig c → Q (xI 1) M) (h0 : ¬ dig c → Q (xI 0) M) : Ru d kTape_isDigit 0 [xI c] [] M Q :=
  vTape_isDigit_0 ⟨fun y => h0 (fun z => by have := z.1; omega), fun y => ⟨fun y2 => h0 (fun z => by have := z.2; omega), fun y2 => h1 ⟨by omega, by omega⟩⟩⟩
theorem qTape_fail {p k : Int} (p0 : 0 ≤ p) (p1 : p ≤ 400) (k0 : 0 ≤ k) (k1 : k ≤ 3) (h1 : ¬ M a 3 = 0 → Q xU M) (h0 : M a 3 = 0 → Q xU (up M a 3 (8 * p + k))) : Ru d kTape_fail 0 [xO 7 a, xI p, xI k] [] M Q := by
  refine vTape_fail_0 ⟨h1, fun y => ?_⟩
  rw [z32_id (x := 8 * p) (by omega) (by omega), z32_id (by omega) (by omega)]
  exact h0 (Classical.not_not.mp y)
theorem qTape_nextSign {k : Int} (hT : TG M a g z) (e : M a 2 = k) (k0 : 0 ≤ k) (kz : k ≤ z) (h : ∀ N : xM, N a 2 = nxp g z k → (∀ b j : Int, ¬ (b = a ∧ j = 2) → N b j = M b j) → Q (xI (g (nxp g z k))) N) : Ru (d + 1) kTape_nextSign 0 [xO 7 a] [] M Q := by
  have hz := hT.1.1
  have main : ∀ i : Int, i ≤ z → ∀ N : xM, 0 ≤ i → N a 2 = i → nxp g z i = nxp g z k → (∀ b j : Int, ¬ (b = a ∧ j = 2) → N b j = M b j) → Ru (d + 1) kTape_nextSign 0 [xO 7 a] [] N Q := by
    refine loop_up z (fun i hi ih N i0 ei en hf => ?_)
    have hTN : TG N a g z := TG_fr hT (hf _ _ (by omega)) (fun j => hf _ _ (by omega))
    refine vTape_nextSign_0 ?_
    rw [hTN.2.1, ei]
    refine ⟨fun y => qTape_signAt hTN i0 (vTape_nextSign_45 ?_), fun y => qTape_signAt hTN i0 (vTape_nextSign_19 ?_)⟩
    · have e9 : nxp g z i = i := nxp_n (by rw [hT.1.2.1 i y]; decide)
      have h' := h N (by rw [← en, e9]; exact ei) hf
      rw [← en, e9] at h'
      exact h'
    · rw [ei, z32_id (by omega) (by omega)]
      refine ⟨fun y2 => qTape_signAt hTN i0 (vTape_nextSign_45 ?_), fun y2 => ?_⟩
      · have e9 : nxp g z i = i := nxp_n y2
        have h' := h N (by rw [← en, e9]; exact ei) hf
        rw [← en, e9] at h'
        exact h'
      · refine ih (i + 1) (by omega) (by omega) _ (by omega) up_same (by rw [← (nxp_b hT.1 (Classical.not_not.mp y2)).2]; exact en) (fun b j hb => by rw [up_un (by omega)]; exact hf b j hb)
  exact main k kz M k0 e rfl (fun _ _ _ => rfl)
theorem qTape_atEnd {k : Int} (hT : TG M a g z) (e : M a 2 = k) (k0 : 0 ≤ k) (kz : k ≤ z) (h : ∀ N : xM, N a 2 = nxp g z k → (∀ b j : Int, ¬ (b = a ∧ j = 2) → N b j = M b j) → Q (xI (if g (nxp g z k) = -1 then 1 else 0)) N) : Ru (d + 2) kTape_atEnd 0 [xO 7 a] [] M Q := by
  refine vTape_atEnd_0 (qTape_nextSign hT e k0 kz (fun N e2 hf => vTape_atEnd_4 ⟨fun y => ?_, fun y => ?_⟩))
  · have h' := h N e2 hf
    rw [if_neg y] at h'
    exact h'
  · have h' := h N e2 hf
    rw [if_pos (Classical.not_not.mp y)] at h'
    exact h'
/-- with a fault nothing more is told -/
theorem qTape_expect_x {c k : Int} (e3 : ¬ M a 3 = 0) (h : Q xU M) : Ru (d + 2) kTape_expect 0 [xO 7 a, xI c] [] M Q := vTape_expect_0 ⟨fun y => absurd y e3, fun _ => h⟩
theorem qTape_expect {c k : Int} (hT : TG M a g z) (e : M a 2 = k) (k0 : 0 ≤ k) (kz : k ≤ z) (c0 : 0 ≤ c) (e3 : M a 3 = 0) (h : ∀ N : xM, N a 3 = rsF g z k c → (0 ≤ N a 2 ∧ N a 2 ≤ z) → (rsF g z k c = 0 → N a 2 = nxp g z k + 1) → (∀ b j : Int, ¬ (b = a ∧ (j = 2 ∨ j = 3)) → N b j = M b j) → Q xU N) : Ru (d + 2) kTape_expect 0 [xO 7 a, xI c] [] M Q := by
  have hn := nxp_in hT.1 k kz
  have hz := hT.1.1
  refine vTape_expect_0 ⟨fun _ => qTape_nextSign hT e k0 kz (fun N e2 hf => vTape_expect_12 ⟨fun y => ?_, fun y => ?_⟩), fun y => absurd e3 y⟩
  · have hr : rsF g z k c = 0 := if_pos y
    have := rs_ok hT.1 k0 kz c0 hr
    rw [e2, z32_id (by omega) (by omega)]
    exact h _ (by rw [hr, up_un (by omega), hf _ _ (by omega)]; exact e3) (by rw [up_same]; omega) (fun _ => up_same) (fun b j hb => by rw [up_un (by omega)]; exact hf b j (by omega))
  · have hr : rsF g z k c = 8 * nxp g z k + 1 := if_neg y
    have e33 : N a 3 = 0 := by rw [hf _ _ (by omega)]; exact e3
    rw [e2]
    refine qTape_fail (by omega) (by omega) (by decide) (by decide) (fun z => absurd e33 z) (fun _ => vTape_expect_25 (h _ (by rw [up_same, hr]) (by rw [up_un (by omega), e2]; omega) (fun z => by omega) (fun b j hb => by rw [up_un (by omega)]; exact hf b j (by omega))))
theorem qTape_readNumber_x {m k : Int} (hT : TG M a g z) (e : M a 2 = k) (k0 : 0 ≤ k) (kz : k ≤ z) (e3 : ¬ M a 3 = 0) (h : ∀ N : xM, (0 ≤ N a 2 ∧ N a 2 ≤ z) → (∀ b j : Int, ¬ (b = a ∧ j = 2) → N b j = M b j) → Q (xI 0) N) : Ru (d + 2) kTape_readNumber 0 [xO 7 a, xI m, xU, xU, xU] [] M Q := by
  have hn := nxp_in hT.1 k kz
  have hz := hT.1.1
  refine vTape_readNumber_0 (qTape_nextSign hT e k0 kz (fun N e2 hf => vTape_readNumber_4 ?_))
  have e33 : ¬ N a 3 = 0 := by rw [hf _ _ (by omega)]; exact e3
  have fin : Ru (d + 2) kTape_readNumber 21 [xO 7 a, xI m, xI (g (nxp g z k)), xU, xU] [] N Q := vTape_readNumber_21 ⟨fun y => absurd y e33, fun _ => h N (by omega) hf⟩
  refine qTape_isDigit (fun _ => vTape_readNumber_9 ⟨fun _ => fin, fun z => absurd (by decide) z⟩) (fun _ => vTape_readNumber_9 ⟨fun z => absurd rfl z, fun _ => ?_⟩)
  rw [e2]
  exact qTape_fail (by omega) (by omega) (by decide) (by decide) (fun _ => fin) (fun z => absurd z e33)
theorem qTape_readNumber {m k : Int} (hT : TG M a g z) (e : M a 2 = k) (k0 : 0 ≤ k) (kz : k ≤ z) (m0 : 0 ≤ m) (m1 : m ≤ 999) (e3 : M a 3 = 0) (h : ∀ (N : xM) (v : Int), N a 3 = rnF g z k 0 m → (0 ≤ N a 2 ∧ N a 2 ≤ z) → (rnF g z k 0 m = 0 → v = rnV g z k ∧ N a 2 = rnE g z k) → (∀ b j : Int, ¬ (b = a ∧ (j = 2 ∨ j = 3)) → N b j = M b j) → Q (xI v) N) : Ru (d + 2) kTape_readNumber 0 [xO 7 a, xI m, xU, xU, xU] [] M Q := by
  have hn := nxp_in hT.1 k kz
  have hz := hT.1.1
  refine vTape_readNumber_0 (qTape_nextSign hT e k0 kz (fun N e2 hf => vTape_readNumber_4 ?_))
  have e33 : N a 3 = 0 := by rw [hf _ _ (by omega)]; exact e3
  refine qTape_isDigit (fun hd => vTape_readNumber_9 ⟨fun _ => ?_, fun z => absurd (by decide) z⟩) (fun hd => vTape_readNumber_9 ⟨fun z => absurd rfl z, fun _ => ?_⟩)
  · refine vTape_readNumber_21 ⟨fun _ => ?_, fun y => absurd e33 y⟩
    rw [e2]
    -- digits
    have main : ∀ i : Int, i ≤ z → ∀ (N2 : xM) (v c : Int), nxp g z k ≤ i → N2 a 2 = i → dge g z i = rnE g z k → dvl g z i v = rnV g z k → 0 ≤ v → ((c = v ∧ v < 1000) ∨ (c = 1000 ∧ 1000 ≤ v)) → (∀ b j : Int, ¬ (b = a ∧ j = 2) → N2 b j = M b j) → Ru (d + 2) kTape_readNumber 38 [xO 7 a, xI m, xI (g (nxp g z k)), xI (nxp g z k), xI c] [] N2 Q := by
      refine loop_up z (fun i hi ih N2 v c i0 ei h1 h2 v0 hc hf2 => ?_)
      have hT2 : TG N2 a g z := TG_fr hT (hf2 _ _ (by omega)) (fun j => hf2 _ _ (by omega))
      have e34 : N2 a 3 = 0 := by rw [hf2 _ _ (by omega)]; exact e3
      -- no digit more
      have fin : ¬ dig (g i) → (c ≤ m → Q (xI c) N2) ∧ (¬ c ≤ m → Ru (d + 1) kTape_fail 0 [xO 7 a, xI (nxp g z k), xI 2] [] N2 (fun r N => Ru (d + 2) kTape_readNumber 113 [xO 7 a, xI m, xI (g (nxp g z k)), xI (nxp g z k), xI c] [] N Q)) := fun hno => by
        rw [dge_n hno] at h1
        rw [dvl_n hno] at h2
        refine ⟨fun y => ?_, fun y => ?_⟩
        · have hr : rnF g z k 0 m = 0 := by
            unfold rnF
            rw [if_pos (show 48 ≤ g (nxp g z k) ∧ g (nxp g z k) ≤ 57 from hd)]
            refine if_pos ?_
            show 0 ≤ rnV g z k ∧ rnV g z k ≤ m
            omega
          exact h N2 c (by rw [hr]; exact e34) (by omega) (fun _ => ⟨by omega, by omega⟩) (fun b j hb => hf2 b j (by omega))
        · have hr : rnF g z k 0 m = 8 * nxp g z k + 2 := by
            unfold rnF
            rw [if_pos (show 48 ≤ g (nxp g z k) ∧ g (nxp g z k) ≤ 57 from hd)]
            refine if_neg ?_
            show ¬ (0 ≤ rnV g z k ∧ rnV g z k ≤ m)
            omega
          refine qTape_fail (by omega) (by omega) (by decide) (by decide) (fun z => absurd e34 z) (fun _ => vTape_readNumber_113 (h _ 0 (by rw [up_same, hr]) (by rw [up_un (by omega), ei]; omega) (fun z => by omega) (fun b j hb => by rw [up_un (by omega)]; exact hf2 b j (by omega))))
      refine vTape_readNumber_38 ?_
      rw [hT2.2.1, ei]
      refine ⟨fun y => fin (fun hdi => by have := dig_z hT.1 hdi; omega), fun y => qTape_signAt hT2 (by omega) (vTape_readNumber_57 (qTape_isDigit (fun hdi => vTape_readNumber_60 ⟨fun z => absurd z (by decide), fun _ => ?_⟩) (fun hdi => vTape_readNumber_60 ⟨fun _ => fin hdi, fun z => absurd rfl z⟩)))⟩
      rw [ei]
      refine qTape_signAt hT2 (by omega) (vTape_readNumber_79 ?_)
      have hdi' := hdi
      unfold dig at hdi'
      rw [dge_y hT.1 hdi] at h1
      rw [dvl_y hT.1 hdi] at h2
      rw [ei, z32_id (x := i + 1) (by omega) (by omega), z32_id (x := c * 10) (by omega) (by omega), z32_id (x := c * 10 + g i) (by omega) (by omega), z32_id (x := c * 10 + g i - 48) (by omega) (by omega)]
      refine ih (i + 1) (by omega) (by omega) _ (10 * v + g i - 48) _ (by omega) up_same h1 h2 (by omega) ?_ (fun b j hb => by rw [up_un (by omega)]; exact hf2 b j hb)
      unfold mn
      split <;> omega
    exact main (nxp g z k) (by omega) N 0 0 (Int.le_refl _) e2 rfl rfl (by decide) (Or.inl ⟨rfl, by decide⟩) hf
  · have hr : rnF g z k 0 m = 8 * nxp g z k + 1 := if_neg hd
    rw [e2]
    refine qTape_fail (by omega) (by omega) (by decide) (by decide) (fun z => absurd e33 z) (fun _ => vTape_readNumber_21 ⟨fun y => ?_, fun y => ?_⟩)
    · rw [up_same] at y; omega
    · exact h _ 0 (by rw [up_same, hr]) (by rw [up_un (by omega), e2]; omega) (fun z => by omega) (fun b j hb => by rw [up_un (by omega)]; exact hf b j (by omega))
theorem qTape_isStrides {k : Int} (hT : TG M a g z) (e : M a 2 = k) (k0 : 0 ≤ k) (kz : k ≤ z) (h1 : isW g k → Q (xI 1) M) (h0 : ¬ isW g k → Q (xI 0) M) : Ru (d + 1) kTape_isStrides 0 [xO 7 a, xU] [] M Q := by
  have hz := hT.1.1
  refine vTape_isStrides_0 (loop_up 7 (P := fun i => 0 ≤ i → (∀ j : Int, 0 ≤ j → j < i → g (k + j) = strv j) → Ru (d + 1) kTape_isStrides 2 [xO 7 a, xI i] [] M Q) (fun i hi ih i0 hok => ?_) 0 (by decide) (by decide) (fun j j0 j1 => by omega))
  refine vTape_isStrides_2 ?_
  rw [e, z32_id (x := k + 7) (by omega) (by omega), z32_id (x := k + i) (by omega) (by omega)]
  refine ⟨fun y => qTape_signAt hT (by omega) (vTape_isStrides_52 ⟨fun y2 => ?_, fun y2 => ⟨fun y3 => ?_, fun y3 => ?_⟩⟩), fun y => qTape_signAt hT (by omega) (vTape_isStrides_21 ⟨by omega, fun y2 => ?_, fun y2 => ?_⟩)⟩
  · exact h1 ⟨fun j j0 j1 => hok j j0 (by omega), fun z => by omega⟩
  · exact h0 (fun z => z.2 ⟨by omega, y3⟩)
  · exact h1 ⟨fun j j0 j1 => hok j j0 (by omega), fun z => by omega⟩
  · rw [z32_id (by omega) (by omega)]
    refine ih (i + 1) (by omega) (by omega) (by omega) (fun j j0 j1 => ?_)
    by_cases ej : j = i
    · rw [ej]; exact y2
    · exact hok j j0 (by omega)
  · exact h0 (fun z => y2 (z.1 i i0 (by omega)))
end TapeClass
section TapeRef
variable {d : Nat} {M : xM} {Q : xQ} {r : Int} {g : Int → Int} {z : Int}
theorem RG_fr {N : xM} (h : RG M r g z) (e0 : N r 35 = M r 35) (e : ∀ j : Int, N (r + 22) j = M (r + 22) j) : RG N r g z := ⟨h.1, by rw [e0]; exact h.2.1, fun j j0 j1 => by rw [e]; exact h.2.2 j j0 j1⟩
theorem qMo_byteAt {k : Int} (hT : RG M r g z) (k0 : 0 ≤ k) (h : Q (xI (g k)) M) : Ru d kMo_byteAt 0 [xO 9 r, xI k] [] M Q := by
  have hz := hT.1.1
  refine vMo_byteAt_0 ?_
  rw [hT.2.1]
  refine ⟨fun y2 => ?_, fun y2 => ⟨by omega, ?_⟩⟩
  · rw [hT.1.2.1 k y2] at h; exact h
  · rw [hT.2.2 k k0 (by omega)]; exact h
theorem qMo_next {k : Int} (hT : RG M r g z) (e : M r 36 = k) (k0 : 0 ≤ k) (kz : k ≤ z) (h : ∀ N : xM, N r 36 = nxp g z k → (∀ b j : Int, ¬ (b = r ∧ j = 36) → N b j = M b j) → Q (xI (g (nxp g z k))) N) : Ru (d + 1) kMo_next 0 [xO 9 r] [] M Q := by
  have hz := hT.1.1
  have main : ∀ i : Int, i ≤ z → ∀ N : xM, 0 ≤ i → N r 36 = i → nxp g z i = nxp g z k → (∀ b j : Int, ¬ (b = r ∧ j = 36) → N b j = M b j) → Ru (d + 1) kMo_next 0 [xO 9 r] [] N Q := by
    refine loop_up z (fun i hi ih N i0 ei en hf => ?_)
    have hTN : RG N r g z := RG_fr hT (hf _ _ (by omega)) (fun j => hf _ _ (by omega))
    refine vMo_next_0 ?_
    rw [ei]
    refine qMo_byteAt hTN i0 (vMo_next_8 ?_)
    rw [ei, z32_id (by omega) (by omega)]
    refine ⟨fun y2 => qMo_byteAt hTN i0 (vMo_next_34 ?_), fun y2 => ?_⟩
    · have e9 : nxp g z i = i := nxp_n y2
      have h' := h N (by rw [← en, e9]; exact ei) hf
      rw [← en, e9] at h'
      exact h'
    · have hb := nxp_b hT.1 (Classical.not_not.mp y2)
      refine ih (i + 1) (by omega) (by omega) _ (by omega) up_same (by rw [← hb.2]; exact en) (fun b j hb => by rw [up_un (by omega)]; exact hf b j hb)
  exact main k kz M k0 e rfl (fun _ _ _ => rfl)
theorem qMo_isDigitNext {k : Int} (hT : RG M r g z) (e : M r 36 = k) (k0 : 0 ≤ k) (kz : k ≤ z) (h1 : ∀ N : xM, dig (g (nxp g z k)) → N r 36 = nxp g z k → (∀ b j : Int, ¬ (b = r ∧ j = 36) → N b j = M b j) → Q (xI 1) N) (h0 : ∀ N : xM, ¬ dig (g (nxp g z k)) → N r 36 = nxp g z k → (∀ b j : Int, ¬ (b = r ∧ j = 36) → N b j = M b j) → Q (xI 0) N) : Ru (d + 2) kMo_isDigitNext 0 [xO 9 r] [] M Q :=
  vMo_isDigitNext_0 (qMo_next hT e k0 kz (fun N e2 hf => vMo_isDigitNext_4 (qMo_isIn (fun x y => vMo_isDigitNext_14 (h1 N ⟨x, y⟩ e2 hf)) (fun x => vMo_isDigitNext_14 (h0 N x e2 hf)))))
theorem qMo_fails {p k : Int} (p0 : 0 ≤ p) (p1 : p ≤ 400) (k0 : 0 ≤ k) (k1 : k ≤ 3) (h : Q (xI 0) (up M r 37 (8 * p + k))) : Ru d kMo_fails 0 [xO 9 r, xI k, xI p] [] M Q := by
  refine vMo_fails_0 ?_
  rw [z32_id (x := 8 * p) (by omega) (by omega), z32_id (by omega) (by omega)]
  exact h
theorem qMo_readsNumber {lo hi k : Int} (hT : RG M r g z) (e : M r 36 = k) (k0 : 0 ≤ k) (kz : k ≤ z) (lo0 : 0 ≤ lo) (lo1 : lo ≤ 999) (hi1 : hi ≤ 999) (h1 : ∀ N : xM, rnF g z k lo hi = 0 → N r 38 = rnV g z k → N r 36 = rnE g z k → N r 39 = nxp g z k → (∀ b j : Int, ¬ (b = r ∧ (j = 36 ∨ j = 37 ∨ j = 38 ∨ j = 39)) → N b j = M b j) → Q (xI 1) N) (h0 : ∀ N : xM, ¬ rnF g z k lo hi = 0 → N r 37 = rnF g z k lo hi → (∀ b j : Int, ¬ (b = r ∧ (j = 36 ∨ j = 37 ∨ j = 38 ∨ j = 39)) → N b j = M b j) → Q (xI 0) N) : Ru (d + 3) kMo_readsNumber 0 [xO 9 r, xI lo, xI hi, xU, xU] [] M Q := by
  have hn := nxp_in hT.1 k kz
  have hz := hT.1.1
  refine vMo_readsNumber_0 (qMo_isDigitNext hT e k0 kz (fun N hd e2 hf => vMo_readsNumber_4 ⟨fun _ => ?_, fun z => absurd (by decide) z⟩) (fun N hd e2 hf => vMo_readsNumber_4 ⟨fun z => absurd rfl z, fun _ => ?_⟩))
  · rw [e2]
    have main : ∀ i : Int, i ≤ z → ∀ (N2 : xM) (v c : Int), nxp g z k ≤ i → N2 r 36 = i → N2 r 39 = nxp g z k → dge g z i = rnE g z k → dvl g z i v = rnV g z k → 0 ≤ v → ((c = v ∧ v ≤ 9999) ∨ ((10000 ≤ c ∧ c ≤ 99999) ∧ 10000 ≤ v)) → (∀ b j : Int, ¬ (b = r ∧ (j = 36 ∨ j = 37 ∨ j = 38 ∨ j = 39)) → N2 b j = M b j) → Ru (d + 3) kMo_readsNumber 30 [xO 9 r, xI lo, xI hi, xI 1, xI c] [] N2 Q := by
      refine loop_up z (fun i hi2 ih N2 v c i0 ei e39 q1 q2 v0 hc hf2 => ?_)
      have hT2 : RG N2 r g z := RG_fr hT (hf2 _ _ (by omega)) (fun j => hf2 _ _ (by omega))
      refine vMo_readsNumber_30 ?_
      rw [ei]
      refine qMo_byteAt hT2 (by omega) (vMo_readsNumber_38 (qMo_isIn (fun x y => vMo_readsNumber_48 ⟨fun z => absurd z (by decide), fun _ => ?_⟩) (fun x => vMo_readsNumber_48 ⟨fun _ => ?_, fun z => absurd rfl z⟩)))
      · have hdi : dig (g i) := ⟨x, y⟩
        have kz2 := dig_z hT.1 hdi
        rw [dge_y hT.1 hdi] at q1
        rw [dvl_y hT.1 hdi] at q2
        rw [ei, z32_id (x := i + 1) (by omega) (by omega)]
        refine ⟨fun y2 => qMo_byteAt hT2 (by omega) (vMo_readsNumber_77 ?_), fun y2 => ?_⟩
        · rw [ei, z32_id (x := i + 1) (by omega) (by omega), z32_id (x := 10 * c) (by omega) (by omega), z32_id (x := 10 * c + g i) (by omega) (by omega), z32_id (by omega) (by omega)]
          exact ih (i + 1) (by omega) (by omega) _ (10 * v + g i - 48) _ (by omega) up_same (by rw [up_un (by omega)]; exact e39) q1 q2 (by omega) (by omega) (fun b j hb => by rw [up_un (by omega)]; exact hf2 b j hb)
        · exact ih (i + 1) (by omega) (by omega) _ (10 * v + g i - 48) _ (by omega) up_same (by rw [up_un (by omega)]; exact e39) q1 q2 (by omega) (by omega) (fun b j hb => by rw [up_un (by omega)]; exact hf2 b j hb)
      · have hno : ¬ dig (g i) := x
        rw [dge_n hno] at q1
        rw [dvl_n hno] at q2
        refine qMo_isIn (fun x2 y2 => vMo_readsNumber_112 ⟨fun _ => ?_, fun z => absurd (by decide) z⟩) (fun x2 => vMo_readsNumber_112 ⟨fun z => absurd rfl z, fun _ => ?_⟩)
        · have hr : rnF g z k lo hi = 0 := by
            unfold rnF
            rw [if_pos (show 48 ≤ g (nxp g z k) ∧ g (nxp g z k) ≤ 57 from hd)]
            refine if_pos ?_
            show lo ≤ rnV g z k ∧ rnV g z k ≤ hi
            omega
          exact h1 _ hr (by rw [up_same]; omega) (by rw [up_un (by omega)]; omega) (by rw [up_un (by omega)]; exact e39) (fun b j hb => by rw [up_un (by omega)]; exact hf2 b j hb)
        · have hr : rnF g z k lo hi = 8 * nxp g z k + 2 := by
            unfold rnF
            rw [if_pos (show 48 ≤ g (nxp g z k) ∧ g (nxp g z k) ≤ 57 from hd)]
            refine if_neg ?_
            show ¬ (lo ≤ rnV g z k ∧ rnV g z k ≤ hi)
            omega
          rw [up_un (by omega), e39]
          refine qMo_fails (by omega) (by omega) (by decide) (by decide) (vMo_readsNumber_124 ⟨fun _ => ?_, fun z => absurd rfl z⟩)
          exact h0 _ (by omega) (by rw [up_same, hr]) (fun b j hb => by rw [up_un (by omega), up_un (by omega)]; exact hf2 b j hb)
    exact main (nxp g z k) (by omega) _ 0 0 (Int.le_refl _) (by rw [up_un (by omega)]; exact e2) up_same rfl rfl (by decide) (Or.inl ⟨rfl, by decide⟩) (fun b j hb => by rw [up_un (by omega)]; exact hf b j (by omega))
  · have hr : rnF g z k lo hi = 8 * nxp g z k + 1 := if_neg hd
    rw [up_un (by omega), e2]
    exact qMo_fails (by omega) (by omega) (by decide) (by decide) (vMo_readsNumber_26 (h0 _ (by omega) (by rw [up_same, hr]) (fun b j hb => by rw [up_un (by omega), up_un (by omega)]; exact hf b j (by omega))))
theorem qMo_readsSign {c k : Int} (hT : RG M r g z) (e : M r 36 = k) (k0 : 0 ≤ k) (kz : k ≤ z) (c0 : 0 ≤ c) (h1 : ∀ N : xM, rsF g z k c = 0 → N r 36 = nxp g z k + 1 → (∀ b j : Int, ¬ (b = r ∧ (j = 36 ∨ j = 37)) → N b j = M b j) → Q (xI 1) N) (h0 : ∀ N : xM, ¬ rsF g z k c = 0 → N r 37 = rsF g z k c → (∀ b j : Int, ¬ (b = r ∧ (j = 36 ∨ j = 37)) → N b j = M b j) → Q (xI 0) N) : Ru (d + 2) kMo_readsSign 0 [xO 9 r, xI c] [] M Q := by
  have hn := nxp_in hT.1 k kz
  have hz := hT.1.1
  refine vMo_readsSign_0 (qMo_next hT e k0 kz (fun N e2 hf => vMo_readsSign_4 ⟨fun y => ?_, fun y => ?_⟩))
  · have hr : rsF g z k c = 0 := if_pos y
    rw [e2, z32_id (by omega) (by omega)]
    exact h1 _ hr up_same (fun b j hb => by rw [up_un (by omega)]; exact hf b j (by omega))
  · have hr : rsF g z k c = 8 * nxp g z k + 1 := if_neg y
    rw [e2]
    exact qMo_fails (by omega) (by omega) (by decide) (by decide) (vMo_readsSign_17 (h0 _ (by omega) (by rw [up_same, hr]) (fun b j hb => by rw [up_un (by omega)]; exact hf b j (by omega))))
theorem qMo_isStridesWord {k : Int} (hT : RG M r g z) (e : M r 36 = k) (k0 : 0 ≤ k) (kz : k ≤ z) (h1 : ∀ N : xM, isW g (nxp g z k) → N r 36 = nxp g z k → (∀ b j : Int, ¬ (b = r ∧ j = 36) → N b j = M b j) → Q (xI 1) N) (h0 : ∀ N : xM, ¬ isW g (nxp g z k) → N r 36 = nxp g z k → (∀ b j : Int, ¬ (b = r ∧ j = 36) → N b j = M b j) → Q (xI 0) N) : Ru (d + 2) kMo_isStridesWord 0 [xO 9 r, xU, xU, xU] [] M Q := by
  have hn := nxp_in hT.1 k kz
  have hz := hT.1.1
  refine vMo_isStridesWord_0 (qMo_next hT e k0 kz (fun N e2 hf => vMo_isStridesWord_8 ?_))
  have hTN : RG N r g z := RG_fr hT (hf _ _ (by omega)) (fun j => hf _ _ (by omega))
  refine loop_up 7 (P := fun i => 0 ≤ i → (∀ j : Int, 0 ≤ j → j < i → g (nxp g z k + j) = strv j) → Ru (d + 2) kMo_isStridesWord 11 [xO 9 r, xS 1, xI (g (nxp g z k)), xI i] [] N Q) (fun i hi ih i0 hok => ?_) 0 (by decide) (by decide) (fun j j0 j1 => by omega)
  refine vMo_isStridesWord_11 ?_
  rw [e2, z32_id (x := nxp g z k + i) (by omega) (by omega)]
  refine ⟨fun y => vMo_isStridesWord_43 ⟨fun y2 => by omega, fun y2 => ?_⟩, fun y => qMo_byteAt hTN (by omega) (vMo_isStridesWord_29 ⟨by omega, fun y2 => vMo_isStridesWord_43 ⟨fun _ => ?_, fun y3 => by omega⟩, fun y2 => ?_⟩)⟩
  · rw [e2, show i = 7 by omega, z32_id (by omega) (by omega)]
    refine qMo_byteAt hTN (by omega) (vMo_isStridesWord_61 (qMo_isIn (fun x y => vMo_isStridesWord_71 ⟨fun _ => h0 N (fun z => z.2 ⟨x, y⟩) e2 hf, fun z => absurd (by decide) z⟩) (fun x => vMo_isStridesWord_71 ⟨fun z => absurd rfl z, fun _ => h1 N ⟨fun j j0 j1 => hok j j0 (by omega), x⟩ e2 hf⟩)))
  · exact h0 N (fun z => y2 (z.1 i i0 (by omega))) e2 hf
  · rw [z32_id (by omega) (by omega)]
    refine ih (i + 1) (by omega) (by omega) (by omega) (fun j j0 j1 => ?_)
    by_cases ej : j = i
    · rw [ej]; exact Classical.not_not.mp y2
    · exact hok j j0 (by omega)
end TapeRef

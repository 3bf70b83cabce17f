/-! CALLS THAT ASK: fewest, cover, own, best, differs. -/
section Asks3
variable {d : Nat} {M : xM} {Q : xQ} {s r : Int} {T : TB} {a : Int} {P : Int → TB} {kp : Int} {S : Int → TB} {tt : Int} {g : Int → Int} {z : Int}
/-! fewest -/
def spFew (n V L H k w x : Int) : Prop := (k = -1 → w = 0 → x = n) ∧ (0 ≤ k → k < n → (w = 0 → x = L) ∧ (w = 1 → x = V) ∧ (w = 2 → x = H) ∧ (¬ (0 ≤ w ∧ w ≤ 2) → x = -2)) ∧ (¬ (0 ≤ k ∧ k < n) → ¬ (k = -1 ∧ w = 0) → x = -2)
theorem few_leaf {n V L H k w : Int} (e : M (s + 69) 0 = n) (n1 : n ≤ 60) (n0 : 0 ≤ n) (h : 0 ≤ k → k < n → M (s + 69 + 1) k = V ∧ M (s + 69 + 2) k = L ∧ M (s + 69 + 3) k = H) (kk : ∀ x : Int, spFew n V L H k w x → Q (xL x) M) : Ru (d + 1) kRS_fewest 4 [xO 8 s, xI k, xI w] [] M Q := by
  have go : ¬ (k = -1 ∧ w = 0) → Ru (d + 1) kRS_fewest 22 [xO 8 s, xI k, xI w] [] M Q := by
    intro hn
    refine vRS_fewest_22 ?_
    rw [e]
    refine ⟨fun y => kk _ ⟨by omega, by omega, fun _ _ => rfl⟩, fun y => ⟨fun y2 => ?_, fun y2 => kk _ ⟨by omega, by omega, fun _ _ => rfl⟩⟩⟩
    obtain ⟨e1, e2, e3⟩ := h (by omega) y2
    rw [e1, e2, e3]
    exact ⟨fun q => ⟨by omega, kk _ ⟨by omega, fun _ _ => ⟨fun _ => rfl, by omega, by omega, by omega⟩, by omega⟩⟩, fun q0 => ⟨fun q => ⟨by omega, kk _ ⟨by omega, fun _ _ => ⟨by omega, fun _ => rfl, by omega, by omega⟩, by omega⟩⟩, fun q1 => ⟨fun q => ⟨by omega, kk _ ⟨by omega, fun _ _ => ⟨by omega, by omega, fun _ => rfl, by omega⟩, by omega⟩⟩, fun q2 => kk _ ⟨by omega, fun _ _ => ⟨by omega, by omega, by omega, fun _ => rfl⟩, by omega⟩⟩⟩⟩
  refine vRS_fewest_4 ?_
  rw [e]
  exact ⟨fun y => go (by omega), fun y => ⟨fun y2 => go (by omega), fun y2 => kk _ ⟨fun _ _ => rfl, by omega, by omega⟩⟩⟩
theorem few_leafR {n V L H k w x : Int} (e : M r 46 = n) (n1 : n ≤ 60) (n0 : 0 ≤ n) (h : 0 ≤ k → k < n → M (r + 28) k = V ∧ M (r + 29) k = L ∧ M (r + 30) k = H) (w0 : 0 ≤ w) (w1 : w ≤ 2) (hs : spFew n V L H k w x) (kk : Q (xL x) M) : Ru (d + 1) kMo_fewest 20 [xO 9 r, xI k, xI w] [] M Q := by
  obtain ⟨s1, s2, s3⟩ := hs
  refine vMo_fewest_20 ?_
  rw [e, z32_id (by omega) (by omega)]
  refine ⟨fun y => qMo_isIn (fun k0 k1 => vMo_fewest_54 ⟨fun _ => ?_, fun q => absurd (by decide) q⟩) (fun y2 => vMo_fewest_54 ⟨fun q => absurd rfl q, fun _ => qeL kk (s3 (by omega) (by omega)).symm⟩), fun y => ⟨fun y2 => qeL kk (s3 (by omega) (by omega)).symm, fun y2 => qeL kk (s1 (by omega) (by omega)).symm⟩⟩
  obtain ⟨e1, e2, e3⟩ := h k0 (by omega)
  obtain ⟨f0, f1, f2, f3⟩ := s2 k0 (by omega)
  rw [e1, e2, e3]
  exact ⟨fun q => ⟨fun q2 => ⟨by omega, qeL kk (f2 (by omega)).symm⟩, fun q2 => ⟨by omega, qeL kk (f1 (by omega)).symm⟩⟩, fun q => ⟨by omega, qeL kk (f0 (by omega)).symm⟩⟩
theorem aRS_fewest {k w : Int} (hw : Wf T a P kp S) (hC : Cls M s T a P kp S tt g z) (kk : ∀ (N : xM) (x : Int), spFew ((fw T).length) (lE (fw T) k).1 (lE (fw T) k).2.1 (lE (fw T) k).2.2 k w x → Cls N s T a P kp S tt g z → frC M N s → Q (xL x) N) : Ru (d + 100) kRS_fewest 0 [xO 8 s, xI k, xI w] [] M Q :=
  vRS_fewest_0 (qRS_seeFewest hw hC (fun N hN hF hf => few_leaf hF.1 (fw_60 hw.1) (Int.natCast_nonneg _) (fun k0 k1 => FW_at hF k0 k1) (fun x hx => kk N x hx hN (fun b j h => hf b j (by omega) (by omega) (by omega)))))
theorem aMo_fewest {k w x : Int} (hw : Wf T a P kp S) (hR : Ref M r T a P kp S tt g z) (h : spFew ((fw T).length) (lE (fw T) k).1 (lE (fw T) k).2.1 (lE (fw T) k).2.2 k w x) (kk : ∀ N : xM, Ref N r T a P kp S tt g z → frR M N r → Q (xL x) N) : Ru (d + 100) kMo_fewest 0 [xO 9 r, xI k, xI w] [] M Q := by
  refine vMo_fewest_0 (qMo_isIn (fun w0 w1 => vMo_fewest_9 ⟨fun _ => ?_, fun q => absurd (by decide) q⟩) (fun y => vMo_fewest_9 ⟨fun q => absurd rfl q, fun _ => qeL (kk M hR frR_r) ?_⟩))
  · exact qMo_laysFewest hw.1 (RN_of.mp hR.1) hR.2.1.1 (fun N hF hf => few_leafR hF.1 (fw_60 hw.1) (Int.natCast_nonneg _) (fun k0 k1 => RFw_at hF k0 k1) w0 w1 h (kk N (Ref_fr hw.1 hR (fun b j h => by unfold rOk at h; exact hf b j (by omega) (by omega))) (fun b j h => hf b j (by omega) (by omega))))
  · obtain ⟨s1, s2, s3⟩ := h
    by_cases c : 0 ≤ k ∧ k < ((fw T).length : Int)
    · exact ((s2 c.1 c.2).2.2.2 y).symm
    · exact (s3 c (fun q => y ⟨by omega, by omega⟩)).symm
theorem bo_fewest (k w : Int) : Bo kRS_fewest [xO 8 0, xI k, xI w] kMo_fewest [xO 9 198, xI k, xI w] xL :=
  bo_q (fun σ x => spFew ((fw σ.1).length) (lE (fw σ.1) k).1 (lE (fw σ.1) k).2.1 (lE (fw σ.1) k).2.2 k w x) (fun _ _ _ _ _ _ _ _ _ _ _ hw hC kk => aRS_fewest hw hC kk) (fun _ _ _ _ _ _ _ _ _ _ _ _ hw hR h kk => aMo_fewest hw hR h kk)
/-! cover -/
def spCover (u v k w x : Int) : Prop := (uns v < uns u → x = -2) ∧ (uns u ≤ uns v → ∃ (V L : Int → Int) (m : Int), isPcs V L (uns u) (uns v + 1) m ∧ (k = -1 → w = 0 → x = m) ∧ (0 ≤ k → k < m → (w = 0 → x = L k) ∧ (w = 1 → x = V k) ∧ (¬ (w = 0 ∨ w = 1) → x = -2)) ∧ (¬ (0 ≤ k ∧ k < m) → ¬ (k = -1 ∧ w = 0) → x = -2))
theorem aRS_cover {u v k w : Int} (hw : Wf T a P kp S) (hC : Cls M s T a P kp S tt g z) (kk : ∀ (N : xM) (x : Int), spCover u v k w x → Cls N s T a P kp S tt g z → frC M N s → Q (xL x) N) : Ru (d + 100) kRS_cover 0 [xO 8 s, xI u, xI v, xI k, xI w] [] M Q := by
  have hu := uns_in u
  have hv := uns_in v
  refine vRS_cover_0 (qRS_unsigned (vRS_cover_4 (qRS_unsigned (vRS_cover_8 ⟨fun y => ?_, fun y => kk M _ ⟨fun _ => rfl, fun h => absurd h y⟩ hC frC_r⟩))))
  refine qRS_unsigned (vRS_cover_24 (qRS_unsigned (vRS_cover_28 (qPieces_cut hu.1 y hv.2 (fun N hp hf => vRS_cover_31 ?_)))))
  have pb := hp.1
  have hN : Cls N s T a P kp S tt g z := Cls_s hw hC (fun b j h1 h2 h3 h4 h5 => hf b j (by omega) (by omega) (by omega))
  have hF : frC M N s := fun b j h => hf b j (by omega) (by omega) (by omega)
  have nl : ¬ uns v < uns u := by omega
  have go : ¬ (k = -1 ∧ w = 0) → Ru (d + 99) kPieces_tellOf 0 [xO 4 (s + 111), xI k, xI w] [] N (fun r N => Ru (d + 100) kRS_cover 60 [xO 8 s, xI u, xI v, xI k, xI w] [r] N Q) := by
    intro hn
    by_cases c : 0 ≤ k ∧ k < N (s + 111) 0
    · refine qPieces_tellOf c.1 c.2 (by omega) (vRS_cover_60 (kk N _ ⟨fun h => absurd h nl, fun _ => ⟨_, _, _, hp, fun h => by omega, fun _ _ => ⟨fun h => if_pos h, fun h => ?_, fun h => ?_⟩, fun h => absurd c h⟩⟩ hN hF))
      · rw [if_neg (by omega), if_pos h]
      · rw [if_neg (by omega), if_neg (by omega)]
    · exact qPieces_tellOf0 c (vRS_cover_60 (kk N _ ⟨fun h => absurd h nl, fun _ => ⟨_, _, _, hp, fun h h2 => absurd ⟨h, h2⟩ hn, fun h h2 => absurd ⟨h, h2⟩ c, fun _ _ => rfl⟩⟩ hN hF))
  exact ⟨fun q => go (by omega), fun q => ⟨fun q2 => go (by omega), fun q2 => kk N _ ⟨fun h => absurd h nl, fun _ => ⟨_, _, _, hp, fun _ _ => rfl, fun _ _ => by omega, fun _ h => absurd ⟨by omega, by omega⟩ h⟩⟩ hN hF⟩⟩
theorem aMo_cover {u v k w x : Int} (hw : Wf T a P kp S) (hR : Ref M r T a P kp S tt g z) (h : spCover u v k w x) (kk : ∀ N : xM, Ref N r T a P kp S tt g z → frR M N r → Q (xL x) N) : Ru (d + 100) kMo_cover 0 [xO 9 r, xI u, xI v, xI k, xI w] [] M Q := by
  refine vMo_cover_0 (qMo_covers (fun y => vMo_cover_6 ⟨fun q => absurd rfl q, fun _ => qeL (kk _ (Ref_fr hw.1 hR (fun b j h => by unfold rOk at h; exact up_un (by omega))) (fun b j h => up_un (by omega))) (h.1 y).symm⟩) (fun y N hp hf => vMo_cover_6 ⟨fun _ => ?_, fun q => absurd (by decide) q⟩))
  obtain ⟨V, L, m, h1, s1, s2, s3⟩ := h.2 y
  obtain ⟨em, e⟩ := isPcs_u h1 hp
  have pb := hp.1
  have hk := kk N (Ref_fr hw.1 hR (fun b j h => by unfold rOk at h; exact hf b j (by omega) (by omega) (by omega))) (fun b j h => hf b j (by omega) (by omega) (by omega))
  rw [z32_id (by omega) (by omega)]
  refine ⟨fun q => qMo_isIn (fun k0 k1 => vMo_cover_48 ⟨fun q => absurd q (by decide), fun _ => qMo_isIn (fun w0 w1 => vMo_cover_59 ⟨fun _ => ?_, fun q => absurd (by decide) q⟩) (fun y => vMo_cover_59 ⟨fun q => absurd rfl q, fun _ => qeL hk ((s2 k0 (by omega)).2.2 (by omega)).symm⟩)⟩) (fun y => vMo_cover_48 ⟨fun _ => qeL hk (s3 (by omega) (by omega)).symm, fun q => absurd rfl q⟩), fun q => ⟨fun q2 => qeL hk (s3 (by omega) (by omega)).symm, fun q2 => qeL hk ?_⟩⟩
  · obtain ⟨f0, f1, -⟩ := s2 k0 (by omega)
    have ek := e k k0 (by omega)
    exact ⟨fun q => ⟨by omega, qeL hk (by rw [← ek.1]; exact (f1 (by omega)).symm)⟩, fun q => ⟨by omega, qeL hk (by rw [← ek.2]; exact (f0 (by omega)).symm)⟩⟩
  · rw [← em]; exact (s1 (by omega) (by omega)).symm
theorem bo_cover (u v k w : Int) : Bo kRS_cover [xO 8 0, xI u, xI v, xI k, xI w] kMo_cover [xO 9 198, xI u, xI v, xI k, xI w] xL :=
  bo_q (fun _ x => spCover u v k w x) (fun _ _ _ _ _ _ _ _ _ _ _ hw hC kk => aRS_cover hw hC kk) (fun _ _ _ _ _ _ _ _ _ _ _ _ hw hR h kk => aMo_cover hw hR h kk)
/-! own -/
def spOwn (T : TB) (e k w x : Int) : Prop := (¬ (okH T e ∧ -1 ≤ k) → x = -2) ∧ (okH T e → -1 ≤ k → ∃ (m : Int) (F K : Int → Int), isRows T m F K ∧ x = oA (oS T F m e k w m.toNat 0 0) k w)
theorem aRS_own {e k w : Int} (k1 : k < 2147483648) (hw : Wf T a P kp S) (hC : Cls M s T a P kp S tt g z) (kk : ∀ (N : xM) (x : Int), spOwn T e k w x → Cls N s T a P kp S tt g z → frC M N s → Q (xL x) N) : Ru (d + 100) kRS_own 0 [xO 8 s, xI e, xI k, xI w, xU, xU] [] M Q := by
  have go : okH T e → -1 ≤ k → Ru (d + 99) kRS_seeSpans 0 [xO 8 s] [] M (fun r N => Ru (d + 100) kRS_own 29 [xO 8 s, xI e, xI k, xI w, xU, xU] [] N Q) := by
    intro ho k0
    refine qRS_seeSpans hw hC (fun N hN hS _ hf => ?_)
    have hR := SP_SR hw.1 hS
    exact qRS_ownL hR k0 k1 (fun N2 hf2 => kk N2 _ ⟨fun h => absurd ⟨ho, k0⟩ h, fun _ _ => ⟨_, _, _, hR.1, rfl⟩⟩ (Cls_s hw hN (fun b j h1 h2 h3 h4 h5 => hf2 b j (by omega) (by omega) (by omega))) (frC_t (fr_see hf) (fun b j h => hf2 b j (by omega) (by omega) (by omega))))
  have no : ¬ (okH T e ∧ -1 ≤ k) → Q (xL (-2)) M := fun q => kk M _ ⟨fun _ => rfl, fun h1 h2 => absurd ⟨h1, h2⟩ q⟩ hC frC_r
  refine vRS_own_0 ⟨fun y => ⟨fun y2 => go (Or.inl y) y2, fun y2 => no (fun c => y2 c.2)⟩, fun y => qTable_hasHop hC.1 (fun k0 k1 k2 => vRS_own_13 ⟨fun q => absurd q (by decide), fun _ => ⟨fun y2 => go (Or.inr ⟨⟨k0, k1⟩, k2⟩) y2, fun y2 => no (fun c => y2 c.2)⟩⟩) (fun q => vRS_own_13 ⟨fun _ => no ?_, fun x => absurd rfl x⟩)⟩
  rintro ⟨c | c, -⟩
  · exact absurd c y
  · exact absurd ⟨c.1.1, c.1.2, c.2⟩ q
theorem oA_no {x k w : Int} (h : ¬ (w = 0 ∨ w = 1)) : oA x k w = -2 := if_neg h
theorem aMo_own {e k w x : Int} (k1 : k < 2147483648) (hw : Wf T a P kp S) (hR : Ref M r T a P kp S tt g z) (h : spOwn T e k w x) (kk : ∀ N : xM, Ref N r T a P kp S tt g z → frR M N r → Q (xL x) N) : Ru (d + 100) kMo_own 0 [xO 9 r, xI e, xI k, xI w, xU, xU] [] M Q := by
  have hN := RN_of.mp hR.1
  have hW := hR.2.1.1
  have hr := RW_0 hW
  have no : ¬ (okH T e ∧ -1 ≤ k) → Q (xL (-2)) M := fun q => qeL (kk M hR frR_r) (h.1 q).symm
  have at_ : okH T e → -1 ≤ k → (w = 0 ∨ w = 1) → Ru (d + 99) kMo_ownAt 0 [xO 9 r, xI (hk T e), xI k, xI w, xU, xU, xU] [] M (fun v N => Ru (d + 100) kMo_own 57 [xO 9 r, xI e, xI k, xI w, xU, xU] [v] N Q) := by
    intro ho k0 w01
    refine qMo_ownAt2 hw.1 hW ho k0 k1 w01 (fun N hb hf => vMo_own_57 ?_)
    have hq := kk N (Ref_fr hw.1 hR (fun b j h => by unfold rOk at h; exact hf b j (by omega) (by omega) (by omega))) (fun b j h => hf b j (by omega) (by omega) (by omega))
    obtain ⟨m, F, K, h1, hx⟩ := h.2 ho k0
    obtain ⟨em, ef⟩ := isRows_u h1 hr
    have m1 := h1.1
    rw [oS_cg (F2 := M (r + 6)) (fun i i0 i1 => (ef i i0 i1).1) m.toNat 0 0 (by decide) (by omega), em] at hx
    unfold oA at hx
    rw [if_pos w01] at hx
    refine ⟨fun q => ⟨fun q2 => qeL hq ?_, fun q2 => qeL hq ?_⟩, fun q => ⟨fun q2 => qeL hq ?_, fun q2 => ?_⟩⟩
    · rw [if_neg q, if_pos q2] at hx; exact hx.symm
    · rw [if_neg q, if_neg q2] at hx; exact hx.symm
    · rw [if_pos (Classical.not_not.mp q), if_neg q2] at hx; exact hx.symm
    · have b := hb (Classical.not_not.mp q)
      rw [if_pos (Classical.not_not.mp q), if_pos (Classical.not_not.mp q2)] at hx
      rw [z64_id (by omega) (by omega)]
      exact qeL hq hx.symm
  have go : okH T e → Ru (d + 100) kMo_own 13 [xO 9 r, xI e, xI k, xI w, xU, xU] [] M Q := by
    intro ho
    refine vMo_own_13 ⟨fun y => no (fun c => absurd c.2 (by omega)), fun y => qMo_isIn (fun w0 w1 => vMo_own_25 ⟨fun _ => ⟨fun q => ?_, fun q => ?_⟩, fun q => absurd (by decide) q⟩) (fun y2 => vMo_own_25 ⟨fun q => absurd rfl q, fun _ => qeL (kk M hR frR_r) ?_⟩)⟩
    · rcases id ho with c | c
      · exact absurd c q
      · have ea := at_ ho (by omega) (by omega)
        rw [show hk T e = tK T e from if_neg q] at ea
        rw [z32_id (by omega) (by omega), hN.2.2.2.1 e c.1.1 (by omega)]
        exact ⟨by omega, ea⟩
    · have ea := at_ ho (by omega) (by omega)
      rw [show hk T e = -1 from if_pos (Classical.not_not.mp q)] at ea
      exact ea
    · obtain ⟨m, F, K, -, hx⟩ := h.2 ho (by omega)
      rw [oA_no (by omega)] at hx
      exact hx.symm
  refine vMo_own_0 ⟨fun y => go (Or.inl y), fun y => qMo_isHop hw.1 hR.1 (fun k0 k1 k2 => vMo_own_10 ⟨fun q => absurd q (by decide), fun _ => go (Or.inr ⟨⟨k0, k1⟩, k2⟩)⟩) (fun q => vMo_own_10 ⟨fun _ => no ?_, fun x => absurd rfl x⟩)⟩
  rintro ⟨c | c, -⟩
  · exact absurd c y
  · exact absurd ⟨c.1.1, c.1.2, c.2⟩ q
theorem bo_own (e k w : Int) (k1 : k < 2147483648) : Bo kRS_own [xO 8 0, xI e, xI k, xI w, xU, xU] kMo_own [xO 9 198, xI e, xI k, xI w, xU, xU] xL :=
  bo_q (fun σ x => spOwn σ.1 e k w x) (fun _ _ _ _ _ _ _ _ _ _ _ hw hC kk => aRS_own k1 hw hC kk) (fun _ _ _ _ _ _ _ _ _ _ _ _ hw hR h kk => aMo_own k1 hw hR h kk)
/-! best -/
def spBest (T : TB) (m w x : Int) : Prop := (¬ (6 ≤ m ∧ m ≤ 16 ∧ (w = 0 ∨ w = 1)) → x = -1) ∧ (6 ≤ m → m ≤ 16 → (w = 0 ∨ w = 1) → ∃ (n : Int) (F K : Int → Int), isRows T n F K ∧ (w = 0 → x = sl (nA F n) (bl (nA F n) (m - 6).toNat).toNat 0) ∧ (w = 1 → isDg (nA F n) (bl (nA F n) (m - 6).toNat).toNat 0 0 x))
theorem aRS_best {m w : Int} (hw : Wf T a P kp S) (hC : Cls M s T a P kp S tt g z) (kk : ∀ (N : xM) (x : Int), spBest T m w x → Cls N s T a P kp S tt g z → frC M N s → Q (xL x) N) : Ru (d + 100) kRS_best 0 [xO 8 s, xI m, xI w, xU] [] M Q := by
  have no : ¬ (6 ≤ m ∧ m ≤ 16 ∧ (w = 0 ∨ w = 1)) → Q (xL (-1)) M := fun q => kk M _ ⟨fun _ => rfl, fun m0 m1 w01 => absurd ⟨m0, m1, w01⟩ q⟩ hC frC_r
  have go : 6 ≤ m → m ≤ 16 → (w = 0 ∨ w = 1) → Ru (d + 100) kRS_best 25 [xO 8 s, xI m, xI w, xU] [] M Q := by
    intro m0 m1 w01
    refine vRS_best_25 (qRS_seeCosts hw hC (fun N n F K hN hr hc hf => vRS_best_29 ?_))
    have n1 : n ≤ 121 := hr.2
    have hl := nA_lo (F := F) n1
    have bb := bl_b (nA F n) (m - 6).toNat
    have hF : frC M N s := fun b j h => hf b j (by omega) (by omega) (by omega)
    refine qCosts_bestLevels hl hc m0 m1 (vRS_best_37 ⟨fun q => ?_, fun q => ?_⟩)
    · exact qCosts_digitsBy hl hc bb.1 (by omega) (fun y hy => vRS_best_61 (kk N _ ⟨fun h => absurd ⟨m0, m1, w01⟩ h, fun _ _ _ => ⟨n, F, K, hr.1, fun h => absurd h q, fun _ => hy⟩⟩ hN hF))
    · refine qCosts_slotsBy hc (by omega) (by omega) (vRS_best_50 (vRS_best_61 ?_))
      rw [FE_y (sl_0 hl bb.1 (by omega))]
      exact kk N _ ⟨fun h => absurd ⟨m0, m1, w01⟩ h, fun _ _ _ => ⟨n, F, K, hr.1, fun _ => rfl, by omega⟩⟩ hN hF
  exact vRS_best_0 ⟨fun y => no (by omega), fun y => ⟨fun y2 => no (by omega), fun y2 => ⟨fun q => go (by omega) (by omega) (by omega), fun q => ⟨fun q2 => go (by omega) (by omega) (by omega), fun q2 => no (by omega)⟩⟩⟩⟩
theorem aMo_best {m w x : Int} (hw : Wf T a P kp S) (hR : Ref M r T a P kp S tt g z) (h : spBest T m w x) (kk : ∀ N : xM, Ref N r T a P kp S tt g z → frR M N r → Q (xL x) N) : Ru (d + 100) kMo_best 0 [xO 9 r, xI m, xI w, xU, xU] [] M Q := by
  have hW := hR.2.1.1
  have hr := RW_0 hW
  have hq : ∀ N : xM, (∀ b j : Int, ¬ b = r + 31 → ¬ b = r + 32 → N b j = M b j) → Q (xL x) N := fun N hf => kk N (Ref_fr hw.1 hR (fun b j h => by unfold rOk at h; exact hf b j (by omega) (by omega))) (fun b j h => hf b j (by omega) (by omega))
  refine qMo_best hW (fun y => qeL (kk M hR frR_r) (h.1 y).symm) (fun m0 m1 w0 N hf => qeL (hq N hf) ?_) (fun m0 m1 w1 N y hf hy => qeL (hq N hf) ?_)
  · obtain ⟨n, F, K, h1, e0, -⟩ := h.2 m0 m1 (Or.inl w0)
    rw [← nA_u h1 hr]
    exact (e0 w0).symm
  · obtain ⟨n, F, K, h1, -, e1⟩ := h.2 m0 m1 (Or.inr w1)
    rw [← nA_u h1 hr] at hy
    exact isDg_u _ _ _ _ _ hy (e1 w1)
theorem bo_best (m w : Int) : Bo kRS_best [xO 8 0, xI m, xI w, xU] kMo_best [xO 9 198, xI m, xI w, xU, xU] xL :=
  bo_q (fun σ x => spBest σ.1 m w x) (fun _ _ _ _ _ _ _ _ _ _ _ hw hC kk => aRS_best hw hC kk) (fun _ _ _ _ _ _ _ _ _ _ _ _ hw hR h kk => aMo_best hw hR h kk)
end Asks3

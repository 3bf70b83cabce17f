/-! CALLS THAT ASK: node, stored, slot. -/
section Asks5
variable {d : Nat} {M : xM} {Q : xQ} {s r : Int} {T : TB} {a : Int} {P : Int → TB} {kp : Int} {S : Int → TB} {tt : Int} {g : Int → Int} {z : Int}
/-! node -/
noncomputable def cC (T : TB) (l v : Int) : Int := nC T v (wd (tB (tS T) (l + 1).toNat)) (2 ^ (tS T l).toNat)
noncomputable def cR2 (T : TB) (l v : Int) : Int := nR T v (wd (tB (tS T) (l + 1).toNat)) (2 ^ (tS T l).toNat)
noncomputable def cN (T : TB) (l v : Int) : Int := nN T v (wd (tB (tS T) (l + 1).toNat)) (2 ^ (tS T l).toNat)
def isPar (T : TB) (lf vl : Int → Int) (n l x : Int) : Prop := (l = 0 → x = -1) ∧ (0 < l → (lf (l - 1) ≤ x ∧ x < lf l) ∧ vl x = vl n - vl n % wd (tB (tS T) (l - 1).toNat))
def spNode (T : TB) (n w x : Int) : Prop := ∃ (m : Int) (lf vl lv : Int → Int), isNum T m lf vl lv ∧ (¬ (0 ≤ n ∧ n < m) → ((w = 0 ∨ w = 1) → x = 0) ∧ (¬ (w = 0 ∨ w = 1) → x = -2)) ∧ ∀ l : Int, nAt T lf vl lv n l → (w = 0 → x = cC T l (vl n)) ∧ (w = 1 → x = cR2 T l (vl n)) ∧ (w = 2 → x = l) ∧ (w = 3 → x = vl n) ∧ (w = 4 → x = cN T l (vl n)) ∧ (w = 5 → isPar T lf vl n l x) ∧ (¬ (0 ≤ w ∧ w ≤ 5) → x = -2)
theorem aRS_node {n w : Int} (hw : Wf T a P kp S) (hC : Cls M s T a P kp S tt g z) (kk : ∀ (N : xM) (x : Int), spNode T n w x → Cls N s T a P kp S tt g z → frC M N s → Q (xL x) N) : Ru (d + 100) kRS_node 0 [xO 8 s, xI n, xI w] [] M Q := by
  refine vRS_node_0 (qRS_seeNodes hw hC (fun N hN hT _ hf => vRS_node_4 ?_))
  have hF := fr_seeN hf
  have hnum := NT_num hT
  have h9 := hT.2.1.2.2.2.1
  have out : ∀ (y : ¬ (0 ≤ n ∧ n < N (s + 35) 0)) (x : Int), (((w = 0 ∨ w = 1) → x = 0) ∧ (¬ (w = 0 ∨ w = 1) → x = -2)) → Q (xL x) N := fun y x hx => kk N x ⟨_, _, _, _, hnum, fun _ => hx, fun l ha => absurd (num_bd hnum ha) y⟩ hN hF
  refine qNodes_has h9 (fun n0 n1 => vRS_node_12 ⟨fun _ => ?_, fun q => absurd (by decide) q⟩) (fun y => vRS_node_12 ⟨fun q => absurd rfl q, fun _ => ⟨fun q => out y _ ⟨fun _ => rfl, by omega⟩, fun q => ⟨fun q1 => out y _ ⟨by omega, fun _ => rfl⟩, fun q1 => out y _ ⟨fun _ => rfl, by omega⟩⟩⟩⟩)
  obtain ⟨l, ha⟩ := NT_at hw.1 hT n0 n1
  have hFN := ha.2.2.2.2.2.1
  have fin : ∀ x : Int, ((w = 0 → x = cC T l (N (s + 35 + 1) n)) ∧ (w = 1 → x = cR2 T l (N (s + 35 + 1) n)) ∧ (w = 2 → x = l) ∧ (w = 3 → x = N (s + 35 + 1) n) ∧ (w = 4 → x = cN T l (N (s + 35 + 1) n)) ∧ (w = 5 → isPar T (N (s + 35 + 12)) (N (s + 35 + 1)) n l x) ∧ (¬ (0 ≤ w ∧ w ≤ 5) → x = -2)) → Q (xL x) N := fun x hx => kk N x ⟨_, _, _, _, hnum, fun h => absurd ⟨n0, n1⟩ h, fun l2 h2 => by
    have e : l2 = l := by rw [← h2.2.2.1, ha.2.2.1]
    rw [e]
    exact hx⟩ hN hF
  refine ⟨fun q => ⟨by omega, fin _ ⟨fun _ => hFN.1, by omega, by omega, by omega, by omega, by omega, by omega⟩⟩, fun q0 => ⟨fun q => ⟨by omega, fin _ ⟨by omega, fun _ => hFN.2.1, by omega, by omega, by omega, by omega, by omega⟩⟩, fun q1 => ⟨fun q => ⟨by omega, fin _ ⟨by omega, by omega, fun _ => ha.2.2.1, by omega, by omega, by omega, by omega⟩⟩, fun q2 => ⟨fun q => ⟨by omega, fin _ ⟨by omega, by omega, by omega, fun _ => rfl, by omega, by omega, by omega⟩⟩, fun q3 => ⟨fun q => qNodes_storedBy hT ha (vRS_node_121 (fin _ ⟨by omega, by omega, by omega, by omega, fun _ => rfl, by omega, by omega⟩)), fun q4 => ⟨fun q => ⟨by omega, fin _ ⟨by omega, by omega, by omega, by omega, by omega, fun _ => ⟨fun l0 => ?_, fun l0 => ?_⟩, by omega⟩⟩, fun q5 => fin _ ⟨by omega, by omega, by omega, by omega, by omega, by omega, fun _ => rfl⟩⟩⟩⟩⟩⟩⟩
  · have hr := ha.2.1
    rw [l0, hT.2.1.1, show (0 : Int) + 1 = 1 from rfl, hT.2.1.2.1] at hr
    rw [show n = 0 by omega]
    exact hT.2.2.1.2.2
  · have ha2 : NA N (s + 35) T n (l - 1 + 1) := by rw [show l - 1 + 1 = l by omega]; exact ha
    obtain ⟨o, ho, hv, ho2⟩ := NT_par hw.1 hT ha2 (by omega)
    rw [ho2]
    have hr := ho.2.1
    rw [show l - 1 + 1 = l by omega] at hr
    exact ⟨hr, hv⟩
theorem aMo_node {n w x : Int} (hw : Wf T a P kp S) (hR : Ref M r T a P kp S tt g z) (h : spNode T n w x) (kk : ∀ N : xM, Ref N r T a P kp S tt g z → frR M N r → Q (xL x) N) : Ru (d + 100) kMo_node 0 [xO 9 r, xI n, xI w] [] M Q := by
  have hq := kk M hR frR_r
  obtain ⟨m, lf, vl, lv, hnum, e0, e1⟩ := h
  have hnR := RL_num hw.1 hR.2.1
  obtain ⟨es, el, ev⟩ := num_u hw.1 hnum hnR
  have rb := RL_b hw.1 hR.2.1
  refine vMo_node_0 (qMo_isNode ⟨by omega, by omega⟩ (fun n0 n1 => vMo_node_5 ⟨fun q => absurd q (by decide), fun _ => ?_⟩) (fun y => vMo_node_5 ⟨fun _ => ?_, fun q => absurd rfl q⟩))
  · obtain ⟨l, ha⟩ := num_at hw.1 hnR n0 n1
    have lb := ha.1
    have hal : nAt T lf vl lv n l := num_nd hw.1 hnum lb.1 lb.2 (by rw [el l lb.1 (by omega)]; exact ha.2.1.1) (by rw [el (l + 1) (by omega) (by omega)]; exact ha.2.1.2)
    have f := e1 l hal
    have vn := (ev n n0 (by omega)).1
    rw [vn] at f
    obtain ⟨f0, f1, f2, f3, f4, f5, f6⟩ := f
    refine qMo_isIn (fun w0 w1 => vMo_node_17 ⟨fun _ => ⟨by omega, by omega, ?_⟩, fun q => absurd (by decide) q⟩) (fun y => vMo_node_17 ⟨fun q => absurd rfl q, fun _ => ⟨fun q => by omega, fun q => ⟨fun q1 => qeL hq (f6 y).symm, fun q1 => by omega⟩⟩⟩)
    rw [ha.2.2.1]
    refine qMo_reads hw.1 hR.2.1.1 (Or.inl rfl) ha.2.2.2.1 (fun N c1 c2 c3 c4 hf => vMo_node_54 ?_)
    have hR2 : Ref N r T a P kp S tt g z := Ref_fr hw.1 hR (fun b j h => by unfold rOk at h; exact hf b j (by omega) (by omega))
    have hq2 := kk N hR2 (fun b j h => hf b j (by omega) (by omega))
    have g13 : N (r + 13) = M (r + 13) := funext fun j => hf _ _ (by omega) (by omega)
    have g14 : N (r + 14) = M (r + 14) := funext fun j => hf _ _ (by omega) (by omega)
    have g15 : N (r + 15) = M (r + 15) := funext fun j => hf _ _ (by omega) (by omega)
    rw [c1, c2, c3, g13, g14, ha.2.2.1]
    refine ⟨fun q => qeL hq2 (f0 q).symm, fun q0 => ⟨fun q => qeL hq2 (f1 q).symm, fun q1 => ⟨fun q => ⟨by omega, qeL hq2 (f2 q).symm⟩, fun q2 => ⟨fun q => ⟨by omega, qeL hq2 (f3 q).symm⟩, fun q3 => ⟨fun q => qeL hq2 (f4 q).symm, fun q4 => ?_⟩⟩⟩⟩⟩
    obtain ⟨p0, p1⟩ := f5 (by omega)
    have haN : nAt T (N (r + 15)) (N (r + 14)) (N (r + 13)) n l := by rw [g13, g14, g15]; exact ha
    have hx : 0 < l → (M (r + 15) (l - 1) ≤ x ∧ x < M (r + 15) l) ∧ M (r + 14) x = M (r + 14) n - M (r + 14) n % wd (tB (tS T) (l - 1).toNat) := by
      intro l0
      obtain ⟨x1, x2⟩ := p1 l0
      have xb := num_bd hnum (num_nd hw.1 hnum (show 0 ≤ l - 1 by omega) (by omega) x1.1 (by rw [show l - 1 + 1 = l by omega]; exact x1.2))
      rw [el (l - 1) (by omega) (by omega), el l (by omega) (by omega)] at x1
      rw [(ev x xb.1 xb.2).1, vn] at x2
      exact ⟨x1, x2⟩
    refine qMo_parentNode hw.1 hR2.2.1 haN (fun l0 => vMo_node_124 (qeL hq2 (p0 l0).symm)) (fun o l0 ho hv => vMo_node_124 (qeL hq2 ?_)) (fun l0 => ⟨x, by rw [g14, g15]; exact ⟨(hx l0).1.1, (hx l0).1.2, (hx l0).2⟩⟩)
    rw [g13, g14, g15] at ho
    rw [g14] at hv
    have hr := ho.2.1
    have hr2 := (hx l0).1
    exact num_inj hnR ho.1.1 ho.1.2 hr.1 hr.2 hr2.1 (by rw [show l - 1 + 1 = l by omega]; exact hr2.2) (by rw [hv, (hx l0).2])
  · obtain ⟨f0, f1⟩ := e0 (by omega)
    exact ⟨fun q => qeL hq (f0 (Or.inl q)).symm, fun q => ⟨fun q1 => qeL hq (f1 (by omega)).symm, fun q1 => qeL hq (f0 (by omega)).symm⟩⟩
theorem bo_node (n w : Int) : Bo kRS_node [xO 8 0, xI n, xI w] kMo_node [xO 9 198, xI n, xI w] xL :=
  bo_q (fun σ x => spNode σ.1 n w x) (fun _ _ _ _ _ _ _ _ _ _ _ hw hC kk => aRS_node hw hC kk) (fun _ _ _ _ _ _ _ _ _ _ _ _ hw hR h kk => aMo_node hw hR h kk)
/-! stored -/
def isSto (T : TB) (l v i x : Int) : Prop := (¬ (0 ≤ i ∧ i < cN T l v) → x = -2) ∧ (0 ≤ i → i < cN T l v → ∃ k : Nat, k < 2 ^ (tS T l).toNat ∧ nS T v (wd (tB (tS T) (l + 1).toNat)) k = true ∧ nN T v (wd (tB (tS T) (l + 1).toNat)) k = i ∧ x = hp T (v + k * wd (tB (tS T) (l + 1).toNat)))
def spSto (T : TB) (n i x : Int) : Prop := ∃ (m : Int) (lf vl lv : Int → Int), isNum T m lf vl lv ∧ (¬ (0 ≤ n ∧ n < m) → x = -2) ∧ ∀ l : Int, nAt T lf vl lv n l → isSto T l (vl n) i x
theorem aRS_stored {n i : Int} (hw : Wf T a P kp S) (hC : Cls M s T a P kp S tt g z) (kk : ∀ (N : xM) (x : Int), spSto T n i x → Cls N s T a P kp S tt g z → frC M N s → Q (xI x) N) : Ru (d + 100) kRS_stored 0 [xO 8 s, xI n, xI i] [] M Q := by
  refine vRS_stored_0 (qRS_seeNodes hw hC (fun N hN hT _ hf => vRS_stored_4 ?_))
  have hF := fr_seeN hf
  have hnum := NT_num hT
  by_cases c : 0 ≤ n ∧ n < N (s + 35) 0
  · obtain ⟨l, ha⟩ := NT_at hw.1 hT c.1 c.2
    have fin : ∀ x : Int, isSto T l (N (s + 35 + 1) n) i x → Q (xI x) N := fun x hx => kk N x ⟨_, _, _, _, hnum, fun h => absurd c h, fun l2 h2 => by
      have e : l2 = l := by rw [← h2.2.2.1, ha.2.2.1]
      rw [e]
      exact hx⟩ hN hF
    refine qNodes_storedAt hT ha (fun y => vRS_stored_13 (fin _ ⟨fun _ => rfl, fun h1 h2 => absurd ⟨h1, h2⟩ y⟩)) (fun k k1 k2 k3 => vRS_stored_13 (fin _ ⟨fun h => absurd ⟨?_, ?_⟩ h, fun _ _ => ⟨k, k1, k2, k3, rfl⟩⟩))
    · rw [← k3]; exact (nN_b T _ _ k).1
    · have h1 := nN_y k2
      have h2 := nN_mono (T := T) (v := N (s + 35 + 1) n) (z := wd (tB (tS T) (l + 1).toNat)) (show k + 1 ≤ 2 ^ (tS T l).toNat from k1)
      unfold cN
      omega
  · exact qNodes_storedAt0 hT c (vRS_stored_13 (kk N _ ⟨_, _, _, _, hnum, fun _ => rfl, fun l ha => absurd (num_bd hnum ha) c⟩ hN hF))
theorem aMo_stored {n i x : Int} (hw : Wf T a P kp S) (hR : Ref M r T a P kp S tt g z) (h : spSto T n i x) (kk : ∀ N : xM, Ref N r T a P kp S tt g z → frR M N r → Q (xI x) N) : Ru (d + 100) kMo_stored 0 [xO 9 r, xI n, xI i] [] M Q := by
  have hq := kk M hR frR_r
  obtain ⟨m, lf, vl, lv, hnum, e0, e1⟩ := h
  have hnR := RL_num hw.1 hR.2.1
  obtain ⟨es, el, ev⟩ := num_u hw.1 hnum hnR
  have rb := RL_b hw.1 hR.2.1
  refine vMo_stored_0 (qMo_isNode ⟨by omega, by omega⟩ (fun n0 n1 => vMo_stored_5 ⟨fun _ => ⟨by omega, by omega, ?_⟩, fun q => absurd (by decide) q⟩) (fun y => vMo_stored_5 ⟨fun q => absurd rfl q, fun _ => qe hq (e0 (by omega)).symm⟩))
  obtain ⟨l, ha⟩ := num_at hw.1 hnR n0 n1
  have lb := ha.1
  have hal : nAt T lf vl lv n l := num_nd hw.1 hnum lb.1 lb.2 (by rw [el l lb.1 (by omega)]; exact ha.2.1.1) (by rw [el (l + 1) (by omega) (by omega)]; exact ha.2.1.2)
  have f := e1 l hal
  rw [(ev n n0 (by omega)).1] at f
  rw [ha.2.2.1]
  refine qMo_reads hw.1 hR.2.1.1 (Or.inl rfl) ha.2.2.2.1 (fun N c1 c2 c3 c4 hf => vMo_stored_28 ?_)
  have hR2 : Ref N r T a P kp S tt g z := Ref_fr hw.1 hR (fun b j h => by unfold rOk at h; exact hf b j (by omega) (by omega))
  have hq2 := kk N hR2 (fun b j h => hf b j (by omega) (by omega))
  have nb := nN_b T (M (r + 14) n) (wd (tB (tS T) (l + 1).toNat)) (2 ^ (tS T l).toNat)
  have hs := hw.1.2.2.2.2.2.2.1 l lb.1 lb.2
  have p64 : (2 : Nat) ^ (tS T l).toNat ≤ 64 := Nat.pow_le_pow_right (n := 2) (by decide) (show (tS T l).toNat ≤ 6 by omega)
  have c3' : N r 22 = cN T l (M (r + 14) n) := c3
  have nb1 : 0 ≤ cN T l (M (r + 14) n) := nb.1
  have nb2 : cN T l (M (r + 14) n) ≤ 64 := by have := nb.2; unfold cN; omega
  rw [c3', z32_id (by omega) (by omega)]
  refine qMo_isIn (fun i0 i1 => vMo_stored_41 ⟨fun q => absurd q (by decide), fun _ => ⟨by omega, ?_⟩⟩) (fun y => vMo_stored_41 ⟨fun _ => qe hq2 (f.1 (by omega)).symm, fun q => absurd rfl q⟩)
  obtain ⟨k, k1, k2, k3, hx⟩ := f.2 i0 (by omega)
  have hc := c4 k k1 k2
  rw [k3] at hc
  rw [hc]
  exact qMo_hopBy hw.1 (RN_of.mp hR2.1) (vMo_stored_54 (qe hq2 hx.symm))
theorem bo_stored (n i : Int) : Bo kRS_stored [xO 8 0, xI n, xI i] kMo_stored [xO 9 198, xI n, xI i] xI :=
  bo_q (fun σ x => spSto σ.1 n i x) (fun _ _ _ _ _ _ _ _ _ _ _ hw hC kk => aRS_stored hw hC kk) (fun _ _ _ _ _ _ _ _ _ _ _ _ hw hR h kk => aMo_stored hw hR h kk)
/-! slot -/
def isSlt (T : TB) (lf vl : Int → Int) (l n q w x : Int) : Prop := (¬ ((0 ≤ q ∧ q < 2 ^ (tS T l).toNat) ∧ (w = 0 ∨ w = 1)) → x = -3) ∧ (0 ≤ q → q < 2 ^ (tS T l).toNat → (w = 0 → (lfp T (vl n + q * wd (tB (tS T) (l + 1).toNat)) (wd (tB (tS T) (l + 1).toNat)) → x = -1) ∧ (¬ lfp T (vl n + q * wd (tB (tS T) (l + 1).toNat)) (wd (tB (tS T) (l + 1).toNat)) → l + 1 < tZ T ∧ (lf (l + 1) ≤ x ∧ x < lf (l + 1 + 1)) ∧ vl x = vl n + q * wd (tB (tS T) (l + 1).toNat))) ∧ (w = 1 → (lfp T (vl n + q * wd (tB (tS T) (l + 1).toNat)) (wd (tB (tS T) (l + 1).toNat)) → x = hp T (vl n + q * wd (tB (tS T) (l + 1).toNat))) ∧ (¬ lfp T (vl n + q * wd (tB (tS T) (l + 1).toNat)) (wd (tB (tS T) (l + 1).toNat)) → x = -2)))
def spSlot (T : TB) (n q w x : Int) : Prop := ∃ (m : Int) (lf vl lv : Int → Int), isNum T m lf vl lv ∧ (¬ (0 ≤ n ∧ n < m) → x = -3) ∧ ∀ l : Int, nAt T lf vl lv n l → isSlt T lf vl l n q w x
theorem aRS_slot {n q w : Int} (hw : Wf T a P kp S) (hC : Cls M s T a P kp S tt g z) (kk : ∀ (N : xM) (x : Int), spSlot T n q w x → Cls N s T a P kp S tt g z → frC M N s → Q (xI x) N) : Ru (d + 100) kRS_slot 0 [xO 8 s, xI n, xI q, xI w, xU] [] M Q := by
  refine vRS_slot_0 (qRS_seeNodes hw hC (fun N hN hT _ hf => vRS_slot_4 ?_))
  have hF := fr_seeN hf
  have hnum := NT_num hT
  refine qNodes_has hT.2.1.2.2.2.1 (fun n0 n1 => vRS_slot_12 ⟨fun c => absurd c (by decide), fun _ => ?_⟩) (fun y => vRS_slot_12 ⟨fun _ => kk N _ ⟨_, _, _, _, hnum, fun _ => rfl, fun l ha => absurd (num_bd hnum ha) y⟩ hN hF, fun c => absurd rfl c⟩)
  obtain ⟨l, ha⟩ := NT_at hw.1 hT n0 n1
  have fin : ∀ x : Int, isSlt T (N (s + 35 + 12)) (N (s + 35 + 1)) l n q w x → Q (xI x) N := fun x hx => kk N x ⟨_, _, _, _, hnum, fun h => absurd ⟨n0, n1⟩ h, fun l2 h2 => by
      have e : l2 = l := by rw [← h2.2.2.1, ha.2.2.1]
      rw [e]
      exact hx⟩ hN hF
  have no : ¬ ((0 ≤ q ∧ q < 2 ^ (tS T l).toNat) ∧ (w = 0 ∨ w = 1)) → Q (xI (-3)) N := fun y => fin _ ⟨fun _ => rfl, fun q0 q1 => ⟨fun c => absurd ⟨⟨q0, q1⟩, Or.inl c⟩ y, fun c => absurd ⟨⟨q0, q1⟩, Or.inr c⟩ y⟩⟩
  have go : 0 ≤ q → q < 2 ^ (tS T l).toNat → (w = 0 ∨ w = 1) → Ru (d + 100) kRS_slot 43 [xO 8 s, xI n, xI q, xI w, xU] [] N Q := by
    intro q0 q1 w01
    have nn : ¬ ((0 ≤ q ∧ q < 2 ^ (tS T l).toNat) ∧ (w = 0 ∨ w = 1)) → False := fun h => h ⟨⟨q0, q1⟩, w01⟩
    refine vRS_slot_43 (qNodes_childAt hw.1 hT ha q0 q1 (fun hl => vRS_slot_52 ⟨fun c => ⟨fun _ => ?_, fun c2 => absurd (by decide) c2⟩, fun c => fin _ ⟨fun h => (nn h).elim, fun _ _ => ⟨fun _ => ⟨fun _ => rfl, fun h => absurd hl h⟩, fun h => by omega⟩⟩⟩) (fun o hl l1 ho hv hp ho2 => vRS_slot_52 ⟨fun c => ⟨fun c2 => ?_, fun _ => vRS_slot_80 (fin _ ⟨fun h => (nn h).elim, fun _ _ => ⟨fun h => absurd h c, fun _ => ⟨fun h => absurd h hl, fun _ => rfl⟩⟩⟩)⟩, fun c => fin _ ⟨fun h => (nn h).elim, fun _ _ => ⟨fun _ => ⟨fun h => absurd h hl, fun _ => ⟨l1, ho.2.1, hv⟩⟩, fun h => by omega⟩⟩⟩))
    · exact qNodes_leafHop hw.1 hT ha q0 q1 hl (vRS_slot_80 (fin _ ⟨fun h => (nn h).elim, fun _ _ => ⟨fun h => absurd h c, fun _ => ⟨fun _ => rfl, fun h => absurd hl h⟩⟩⟩))
    · have := NA_b hT ho; omega
  refine ⟨fun y => no (fun c => absurd c.1.1 (by omega)), fun y => qNodes_slotsOf hw.1 hT ha (vRS_slot_28 ⟨fun y2 => no (fun c => absurd c.1.2 (Int.not_lt.mpr y2)), fun y2 => ⟨fun c => go (by omega) (Int.not_le.mp y2) (Or.inl c), fun c => ⟨fun c2 => go (by omega) (Int.not_le.mp y2) (Or.inr c2), fun c2 => no (fun h => h.2.elim c c2)⟩⟩⟩)⟩
theorem aMo_slot {n q w x : Int} (hw : Wf T a P kp S) (hR : Ref M r T a P kp S tt g z) (h : spSlot T n q w x) (kk : ∀ N : xM, Ref N r T a P kp S tt g z → frR M N r → Q (xI x) N) : Ru (d + 100) kMo_slot 0 [xO 9 r, xI n, xI q, xI w, xU] [] M Q := by
  have hq := kk M hR frR_r
  obtain ⟨m, lf, vl, lv, hnum, e0, e1⟩ := h
  have hnR := RL_num hw.1 hR.2.1
  obtain ⟨es, el, ev⟩ := num_u hw.1 hnum hnR
  have rb := RL_b hw.1 hR.2.1
  refine vMo_slot_0 (qMo_isNode ⟨by omega, by omega⟩ (fun n0 n1 => vMo_slot_5 ⟨fun c => absurd c (by decide), fun _ => ⟨by omega, ?_⟩⟩) (fun y => vMo_slot_5 ⟨fun _ => qe hq (e0 (by omega)).symm, fun c => absurd rfl c⟩))
  obtain ⟨l, ha⟩ := num_at hw.1 hnR n0 n1
  have lb := ha.1
  have hal : nAt T lf vl lv n l := num_nd hw.1 hnum lb.1 lb.2 (by rw [el l lb.1 (by omega)]; exact ha.2.1.1) (by rw [el (l + 1) (by omega) (by omega)]; exact ha.2.1.2)
  have f := e1 l hal
  unfold isSlt at f
  rw [(ev n n0 (by omega)).1] at f
  obtain ⟨f0, f1⟩ := f
  have hs := hw.1.2.2.2.2.2.2.1 l lb.1 lb.2
  have hp := p26 hs.1 hs.2
  obtain ⟨-, hsl⟩ := nd_sl hw.1 ha.2.2.2.1
  have hz := hw.1.2.2.2.2.2.1
  rw [ha.2.2.1]
  refine qMo_slotsAt hw.1 hR.2.1.1 (Or.inl rfl) lb.1 lb.2 (vMo_slot_22 ?_)
  rw [z32_id (by omega) (by omega)]
  refine qMo_isIn (fun q0 q1 => vMo_slot_28 ⟨fun c => absurd c (by decide), fun _ => ?_⟩) (fun y => vMo_slot_28 ⟨fun _ => qe hq (f0 (fun c => y ⟨c.1.1, by have := c.1.2; omega⟩)).symm, fun c => absurd rfl c⟩)
  have q2 : q < 2 ^ (tS T l).toNat := by omega
  obtain ⟨g0, g1⟩ := f1 q0 q2
  refine qMo_isIn (fun w0 w1 => vMo_slot_38 ⟨fun _ => ?_, fun c => absurd (by decide) c⟩) (fun y => vMo_slot_38 ⟨fun c => absurd rfl c, fun _ => qe hq (f0 (fun c => y (by omega))).symm⟩)
  refine qMo_leads hw.1 hR.2.1 ha q0 q2 (fun hl => vMo_slot_50 ⟨fun c => ⟨fun c2 => absurd c2 (by decide), fun _ => vMo_slot_109 (qe hq ((g1 (by omega)).2 hl).symm)⟩, fun c => ⟨fun c2 => absurd c2 (by decide), fun _ => ⟨by omega, ?_⟩⟩⟩) (fun hl => vMo_slot_50 ⟨fun c => ⟨fun _ => ?_, fun c2 => absurd rfl c2⟩, fun c => ⟨fun _ => qe hq ((g0 (by omega)).1 hl).symm, fun c2 => absurd rfl c2⟩⟩)
  · obtain ⟨l1, hx, hv⟩ := (g0 (by omega)).2 hl
    have xb := num_bd hnum (num_nd hw.1 hnum (show 0 ≤ l + 1 by omega) l1 hx.1 hx.2)
    rw [(ev x xb.1 xb.2).1] at hv
    rw [el (l + 1) (by omega) (by omega), el (l + 1 + 1) (by omega) (by omega)] at hx
    have hnd := num_nd hw.1 hnR (show 0 ≤ l + 1 by omega) l1 hx.1 hx.2
    have hb := hnd.2.2.2.1
    have wp := wd_pos (tB (tS T) (l + 1).toNat)
    have hm := hnd.2.2.2.2.1
    rw [ha.2.2.1, z32_id (by omega) (by omega)]
    refine qMo_slotFirst hw.1 hR.2.1 ha q0 q2 (vMo_slot_76 ?_)
    have v0 := hb.2.1
    have v1 := hb.2.2
    rw [hv] at v0 v1 hm
    refine qMo_nodeAt hw.1 hR.2.1 (by omega) l1 v0 (by omega) (fun o o0 o1 ho => vMo_slot_79 (qe hq ?_)) (fun hno => absurd ?_ (hno x hx.1 hx.2))
    · rw [hm, Int.sub_zero] at ho
      exact num_inj hnR (by omega) l1 o0 o1 hx.1 hx.2 (by rw [ho, hv])
    · rw [hm, Int.sub_zero]; exact hv
  · have hsq := hsl q q0 q2
    have v0 := ha.2.2.2.1.2.1
    have wp := wd_pos (tB (tS T) (l + 1).toNat)
    refine qMo_slotFirst hw.1 hR.2.1 ha q0 q2 (vMo_slot_103 (qMo_codeAt hR.2.1.1 (Or.inl rfl) (by omega) (by omega) (vMo_slot_106 (qMo_hopBy hw.1 (RN_of.mp hR.1) (vMo_slot_109 (qe hq ((g1 (by omega)).1 hl).symm))))))
theorem bo_slot (n q w : Int) : Bo kRS_slot [xO 8 0, xI n, xI q, xI w, xU] kMo_slot [xO 9 198, xI n, xI q, xI w, xU] xI :=
  bo_q (fun σ x => spSlot σ.1 n q w x) (fun _ _ _ _ _ _ _ _ _ _ _ hw hC kk => aRS_slot hw hC kk) (fun _ _ _ _ _ _ _ _ _ _ _ _ hw hR h kk => aMo_slot hw hR h kk)
end Asks5

/-! ACTS: add, withdraw, strides, gather. -/
section Add
variable {d : Nat} {M N : xM} {Q : xQ} {s r : Int} {T T2 : TB} {a a2 : Int} {P : Int → TB} {kp : Int} {S : Int → TB} {tt : Int} {g g2 : Int → Int} {z z2 : Int}
/-- in the reference, an act that is kept: the row that is there now may still change -/
theorem ActR_of {N2 : xM} (hR : Ref M r T a P kp S tt g z) (n2 : N r 2 = pA a) (n3 : ∀ i : Int, 0 ≤ i → i < pA a → RT N (r + 2) (259 * i) (pP a P T i)) (hf : ∀ b j : Int, ¬ b = r + 2 → ¬ (b = r ∧ j = 2) → N b j = M b j) (h1 : RT N2 (r + 1) 0 T2) (hf2 : ∀ b j : Int, ¬ b = r + 1 → N2 b j = N b j) : ActR N2 r T T2 a P kp S g z :=
  ⟨h1, ⟨by rw [hf2 _ _ (by omega)]; exact n2, fun i i0 i1 => RT_fr (n3 i i0 i1) (fun j => hf2 _ _ (by omega))⟩, fun i i0 i1 => ⟨by rw [hf2 _ _ (by omega), hf _ _ (by omega) (by omega)]; exact (hR.2.2.2.2.1 i i0 i1).1, fun q => RT_fr ((hR.2.2.2.2.1 i i0 i1).2 q) (fun j => by rw [hf2 _ _ (by omega), hf _ _ (by omega) (by omega)])⟩, RG_fr hR.2.2.2.2.2.2 (by rw [hf2 _ _ (by omega), hf _ _ (by omega) (by omega)]) (fun j => by rw [hf2 _ _ (by omega), hf _ _ (by omega) (by omega)])⟩
theorem qRS_stateOf {v l c : Int} (hw : Wf T a P kp S) (hC : Cls M s T a P kp S tt g z) (h0 : (∀ p : Int, isAt T (uns v) l p → ¬ tK T (tH T p) = c) → ((∀ p : Int, ¬ isAt T (uns v) l p) → tN T < 60) → Q (xI 0) M) (h2 : ∀ p : Int, isAt T (uns v) l p → tK T (tH T p) = c → Q (xI (-2)) M) (h3 : (∀ p : Int, ¬ isAt T (uns v) l p) → ¬ tN T < 60 → Q (xI (-3)) M) : Ru (d + 10) kRS_stateOf 0 [xO 8 s, xI v, xI l, xI c, xU] [] M Q := by
  refine vRS_stateOf_0 (qRS_unsigned (vRS_stateOf_8 (qTable_find hC.1 hw.1 (fun p hp => vRS_stateOf_12 ⟨fun y => absurd hp.1 (by omega), fun _ => qTable_keyOfRule hC.1 hw.1 hp.1 hp.2.1 (vRS_stateOf_28 ⟨fun y => h0 (fun q hq => by rw [isAt_u hw.1 hq hp]; exact y) (fun hn => absurd hp (hn p)), fun y => h2 p hp (Classical.not_not.mp y)⟩)⟩) (fun hn => vRS_stateOf_12 ⟨fun _ => ?_, fun y => absurd (by decide) y⟩))))
  rw [hC.1.1]
  exact ⟨fun y => h0 (fun p hp => absurd hp (hn p)) (fun _ => y), fun y => h3 hn y⟩
theorem qMo_hasIt {v l c : Int} (hw : tWF T) (hc : RT M (r + 1) 0 T) (h1 : ∀ p : Int, isAt T v l p → tK T (tH T p) = c → Q (xI 1) M) (h0 : (∀ p : Int, isAt T v l p → ¬ tK T (tH T p) = c) → Q (xI 0) M) : Ru (d + 5) kMo_hasIt 0 [xO 9 r, xL v, xU, xI l, xI c, xU] [] M Q := by
  have hN := RN_of.mp hc
  have hn := hw.1
  refine vMo_hasIt_0 (qMo_find hc hw (fun p hp => vMo_hasIt_6 ⟨fun y => absurd hp.1 (by omega), fun _ => ?_⟩) (fun hno => vMo_hasIt_6 ⟨fun _ => h0 (fun p hp => absurd hp (hno p)), fun y => absurd rfl y⟩))
  have hh := (hw.2.1 p hp.1 hp.2.1).2.2.2
  have p0 := hp.1
  have p1 := hp.2.1
  rw [z32_id (x := 122 + p) (by omega) (by omega), (hN.2.2.1 p hp.1 hp.2.1).2.2, z32_id (x := 182 + tH T p) (by omega) (by omega), hN.2.2.2.1 (tH T p) hh.1 (by omega)]
  exact ⟨by omega, by omega, fun y => h0 (fun q hq => by rw [isAt_u hw hq hp]; exact y), fun y => h1 p hp (Classical.not_not.mp y)⟩
/-! add -/
def spAddR (T : TB) (v l u w x : Int) : Prop := (¬ (isB v l ∧ isWy u w) ∧ x = -1) ∨ ((isB v l ∧ isWy u w) ∧ (∃ p : Int, isAt T (uns v) l p ∧ tK T (tH T p) = 10 * u + w) ∧ x = -2) ∨ ((isB v l ∧ isWy u w) ∧ (∀ p : Int, ¬ isAt T (uns v) l p) ∧ ¬ tN T < 60 ∧ x = -3)
def spAddA (T : TB) (v l u w x : Int) (T2 : TB) : Prop := (isB v l ∧ isWy u w) ∧ (∀ p : Int, isAt T (uns v) l p → ¬ tK T (tH T p) = 10 * u + w) ∧ ((∀ p : Int, ¬ isAt T (uns v) l p) → tN T < 60) ∧ isPut T (uns v) l (10 * u + w) T2 ∧ ∃ p : Int, isAt T2 (uns v) l p ∧ x = tH T2 p
theorem wy_c {u w : Int} (h : isWy u w) : 0 ≤ 10 * u + w ∧ 10 * u + w ≤ 999 := by unfold isWy at h; omega
theorem aRS_add {v l u w : Int} (hw : Wf T a P kp S) (hC : Cls M s T a P kp S tt g z) (kk : ∀ (N : xM) (x : Int), spAddR T v l u w x → Cls N s T a P kp S tt g z → frC M N s → Q (xI x) N) (ka : ∀ (N : xM) (x : Int) (T2 : TB), spAddA T v l u w x T2 → tWF T2 → (∀ t2 : Int, 0 ≤ t2 → isTd T2 T t2 → Cls N s T2 (pA a) (pP a P T) kp S t2 g z) → frC M N s → Q (xI x) N) : Ru (d + 100) kRS_add 0 [xO 8 s, xI v, xI l, xI u, xI w, xU, xU] [] M Q := by
  have un := uns_in v
  refine vRS_add_0 (qRS_isBeginning (fun hb => vRS_add_5 ⟨fun q => absurd q (by decide), fun _ => ?_⟩) (fun hb => vRS_add_5 ⟨fun _ => kk M _ (Or.inl ⟨fun c => hb c.1, rfl⟩) hC frC_r, fun q => absurd rfl q⟩))
  refine qRS_isWay (fun hy => vRS_add_14 ⟨fun _ => qRS_keyOf hy (vRS_add_25 ?_), fun q => absurd (by decide) q⟩) (fun hy => vRS_add_14 ⟨fun q => absurd rfl q, fun _ => kk M _ (Or.inl ⟨fun c => hy c.2, rfl⟩) hC frC_r⟩)
  refine qRS_stateOf hw hC (fun n1 n2 => vRS_add_35 ⟨fun _ => ?_, fun q => absurd rfl q⟩) (fun p hp hk => vRS_add_35 ⟨fun q => absurd q (by decide), fun _ => kk M _ (Or.inr (Or.inl ⟨⟨hb, hy⟩, ⟨p, hp, hk⟩, rfl⟩)) hC frC_r⟩) (fun n1 n2 => vRS_add_35 ⟨fun q => absurd q (by decide), fun _ => kk M _ (Or.inr (Or.inr ⟨⟨hb, hy⟩, n1, n2, rfl⟩)) hC frC_r⟩)
  have hc := wy_c hy
  refine qRS_beginAct hw hC (fun N hA hT hf => vRS_add_49 (qRS_unsigned (vRS_add_57 ?_)))
  refine qTable_put hw.1 hT un.1 un.2 hb.1 hb.2.1 hb.2.2 hc.1 hc.2 n2 (fun T2 N2 p hp hpa hc2 hf2 => vRS_add_63 ?_)
  have hA2 : ActC N2 s T a P kp S g z := ActC_fr hw hA (fun b j q1 q2 => hf2 b j (by omega))
  exact ka N2 _ T2 ⟨⟨hb, hy⟩, n1, n2, hp, p, hpa, rfl⟩ (isPut_wf hw.1 hp un.1 un.2 hb.1 hb.2.1 hb.2.2 hc.1 hc.2) (fun t2 t0 ht => ActC_done hw hA2 hc2 t0 ht) (fun b j h => by rw [hf2 b j (by omega)]; exact hf b j (by omega) (by omega) (by omega))
theorem aMo_addR {v l u w x : Int} (hw : Wf T a P kp S) (hR : Ref M r T a P kp S tt g z) (h : spAddR T v l u w x) (kk : ∀ N : xM, Ref N r T a P kp S tt g z → frR M N r → Q (xI x) N) : Ru (d + 100) kMo_add 0 [xO 9 r, xI v, xI l, xI u, xI w, xU, xU] [] M Q := by
  have hq := kk M hR frR_r
  rcases h with ⟨c, hx⟩ | ⟨⟨hb, hy⟩, ⟨p, hp, hk⟩, hx⟩ | ⟨⟨hb, hy⟩, n1, n2, hx⟩
  · refine vMo_add_0 (qMo_isBeginning (fun hb => vMo_add_5 ⟨fun q => absurd q (by decide), fun _ => qMo_isWay (fun hy => absurd ⟨hb, hy⟩ c) (fun hy => vMo_add_14 ⟨fun q => absurd rfl q, fun _ => qe hq hx.symm⟩)⟩) (fun hb => vMo_add_5 ⟨fun _ => qe hq hx.symm, fun q => absurd rfl q⟩))
  · have hc := wy_c hy
    refine vMo_add_0 (qMo_isBeginning (fun _ => vMo_add_5 ⟨fun q => absurd q (by decide), fun _ => qMo_isWay (fun _ => vMo_add_14 ⟨fun _ => qMo_unsigned (vMo_add_33 ?_), fun q => absurd (by decide) q⟩) (fun n => absurd hy n)⟩) (fun n => absurd hb n))
    unfold isWy at hy
    rw [z32_id (x := 10 * u) (by omega) (by omega), z32_id (by omega) (by omega)]
    exact qMo_hasIt hw.1 hR.1 (fun q hq2 _ => vMo_add_39 ⟨fun c => absurd c (by decide), fun _ => qe hq hx.symm⟩) (fun n => absurd hk (n p hp))
  · have hc := wy_c hy
    refine vMo_add_0 (qMo_isBeginning (fun _ => vMo_add_5 ⟨fun q => absurd q (by decide), fun _ => qMo_isWay (fun _ => vMo_add_14 ⟨fun _ => qMo_unsigned (vMo_add_33 ?_), fun q => absurd (by decide) q⟩) (fun n => absurd hy n)⟩) (fun n => absurd hb n))
    unfold isWy at hy
    rw [z32_id (x := 10 * u) (by omega) (by omega), z32_id (by omega) (by omega)]
    refine qMo_hasIt hw.1 hR.1 (fun q hq2 _ => absurd hq2 (n1 q)) (fun _ => vMo_add_39 ⟨fun _ => ⟨by decide, ?_⟩, fun c => absurd rfl c⟩)
    rw [(RN_of.mp hR.1).1]
    have hn := hw.1.1
    exact ⟨fun y => by omega, fun _ => qMo_unsigned (vMo_add_61 (qMo_find hR.1 hw.1 (fun q hq2 => absurd hq2 (n1 q)) (fun _ => vMo_add_65 ⟨fun y => absurd rfl y, fun _ => qe hq hx.symm⟩)))⟩
theorem aMo_addA {v l u w x : Int} (hw : Wf T a P kp S) (hw2 : tWF T2) (hR : Ref M r T a P kp S tt g z) (h : spAddA T v l u w x T2) (kk : ∀ (N : xM) (t2 : Int), 0 ≤ t2 → isTd T2 T t2 → Ref N r T2 (pA a) (pP a P T) kp S t2 g z → frR M N r → Q (xI x) N) : Ru (d + 100) kMo_add 0 [xO 9 r, xI v, xI l, xI u, xI w, xU, xU] [] M Q := by
  obtain ⟨⟨hb, hy⟩, n1, n2, hput, p, hpa, hx⟩ := h
  have hc := wy_c hy
  have un := uns_in v
  have rb := RL_b hw.1 hR.2.1
  have hnum := RL_num hw.1 hR.2.1
  have go : Ru (d + 100) kMo_add 72 [xO 9 r, xI v, xI l, xI u, xI w, xI (10 * u + w), xU] [] M Q := by
    refine vMo_add_72 (qMo_keepsAct hw hR.1 hR.2.2.2.1.1 hR.2.2.2.1.2 (fun N m2 m3 hf => vMo_add_76 (qMo_unsigned (vMo_add_81 ?_))))
    have hT : RT N (r + 1) 0 T := RT_fr hR.1 (fun j => hf _ _ (by omega) (by omega))
    refine qMo_puts hw.1 (RN_of.mp hT) un.1 un.2 hb.1 hb.2.1 hb.2.2 hc.1 hc.2 n2 (fun T3 N2 p3 hp3 hpa3 hc3 hf2 => vMo_add_87 ?_)
    have e3 : T3 = T2 := isPut_u hw.1 hp3 hput
    subst e3
    have hA := ActR_of hR m2 m3 hf (RN_of.mpr hc3) hf2
    refine qMo_isDone hw hw2 hA hnum (by omega) (fun N3 t2 t0 ht hR3 hf3 => vMo_add_93 ?_)
    have hn2 := hw2.1
    have q0 := hpa3.1
    have q1 := hpa3.2.1
    rw [z32_id (by omega) (by omega), ((RN_of.mp hR3.1).2.2.1 p3 hpa3.1 hpa3.2.1).2.2]
    refine ⟨by omega, qe (kk N3 t2 t0 ht hR3 (fun b j h => by rw [hf3 b j (chD_fr h), hf2 b j (by omega)]; exact hf b j (by omega) (by omega))) ?_⟩
    rw [hx, isAt_u hw2 hpa3 hpa]
  refine vMo_add_0 (qMo_isBeginning (fun _ => vMo_add_5 ⟨fun q => absurd q (by decide), fun _ => qMo_isWay (fun _ => vMo_add_14 ⟨fun _ => qMo_unsigned (vMo_add_33 ?_), fun q => absurd (by decide) q⟩) (fun n => absurd hy n)⟩) (fun n => absurd hb n))
  unfold isWy at hy
  rw [z32_id (x := 10 * u) (by omega) (by omega), z32_id (by omega) (by omega)]
  refine qMo_hasIt hw.1 hR.1 (fun q hq hk => absurd hk (n1 q hq)) (fun _ => vMo_add_39 ⟨fun _ => ⟨by decide, ?_⟩, fun c => absurd rfl c⟩)
  rw [(RN_of.mp hR.1).1]
  refine ⟨fun y => go, fun y => qMo_unsigned (vMo_add_61 (qMo_find hR.1 hw.1 (fun q hq => vMo_add_65 ⟨fun _ => go, fun y2 => ?_⟩) (fun hno => ?_)))⟩
  · have := hq.1; omega
  · have := n2 hno; omega
theorem bo_add (v l u w : Int) : Bo kRS_add [xO 8 0, xI v, xI l, xI u, xI w, xU, xU] kMo_add [xO 9 198, xI v, xI l, xI u, xI w, xU, xU] xI :=
  bo_act (fun σ x => spAddR σ.1 v l u w x) (fun σ x T2 => spAddA σ.1 v l u w x T2) (fun _ _ _ _ _ _ _ _ _ _ _ hw hC kk ka => aRS_add hw hC kk ka) (fun _ _ _ _ _ _ _ _ _ _ _ _ hw hR h kk => aMo_addR hw hR h kk) (fun _ _ _ _ _ _ _ _ _ _ _ _ _ hw hw2 hR h kk => aMo_addA hw hw2 hR h kk)
/-! withdraw -/
def spWdR (T : TB) (v l x : Int) : Prop := (¬ (isB v l ∧ ∃ p : Int, isAt T (uns v) l p)) ∧ x = -1
def spWdA (T : TB) (v l x : Int) (T2 : TB) : Prop := isB v l ∧ ∃ p : Int, isAt T (uns v) l p ∧ T2 = delT T p ∧ x = tN T - 1
theorem aRS_withdraw {v l : Int} (hw : Wf T a P kp S) (hC : Cls M s T a P kp S tt g z) (kk : ∀ (N : xM) (x : Int), spWdR T v l x → Cls N s T a P kp S tt g z → frC M N s → Q (xI x) N) (ka : ∀ (N : xM) (x : Int) (T2 : TB), spWdA T v l x T2 → tWF T2 → (∀ t2 : Int, 0 ≤ t2 → isTd T2 T t2 → Cls N s T2 (pA a) (pP a P T) kp S t2 g z) → frC M N s → Q (xI x) N) : Ru (d + 100) kRS_withdraw 0 [xO 8 s, xI v, xI l, xU] [] M Q := by
  refine vRS_withdraw_0 (qRS_isBeginning (fun hb => vRS_withdraw_5 ⟨fun _ => qRS_unsigned (vRS_withdraw_18 ?_), fun q => absurd (by decide) q⟩) (fun hb => vRS_withdraw_5 ⟨fun q => absurd rfl q, fun _ => kk M _ ⟨fun c => hb c.1, rfl⟩ hC frC_r⟩))
  refine qTable_find hC.1 hw.1 (fun p hp => vRS_withdraw_22 ⟨fun _ => ?_, fun y => absurd hp.1 y⟩) (fun hno => vRS_withdraw_22 ⟨fun y => absurd y (by decide), fun _ => kk M _ ⟨fun c => c.2.elim (fun q hq => hno q hq), rfl⟩ hC frC_r⟩)
  refine qRS_beginAct hw hC (fun N hA hT hf => vRS_withdraw_33 (qTable_drop hw.1 hT hp.1 hp.2.1 (fun N2 hc2 hf2 => vRS_withdraw_41 ?_)))
  have hA2 : ActC N2 s T a P kp S g z := ActC_fr hw hA (fun b j q1 q2 => hf2 b j (by omega))
  exact ka N2 _ (delT T p) ⟨hb, p, hp, rfl, hc2.1⟩ (tWF_del hw.1 hp.1 hp.2.1) (fun t2 t0 ht => ActC_done hw hA2 hc2 t0 ht) (fun b j h => by rw [hf2 b j (by omega)]; exact hf b j (by omega) (by omega) (by omega))
theorem aMo_wdR {v l x : Int} (hw : Wf T a P kp S) (hR : Ref M r T a P kp S tt g z) (h : spWdR T v l x) (kk : ∀ N : xM, Ref N r T a P kp S tt g z → frR M N r → Q (xI x) N) : Ru (d + 100) kMo_withdraw 0 [xO 9 r, xI v, xI l, xU] [] M Q := by
  have hq := kk M hR frR_r
  exact vMo_withdraw_0 (qMo_isBeginning (fun hb => vMo_withdraw_5 ⟨fun _ => qMo_unsigned (vMo_withdraw_15 (qMo_find hR.1 hw.1 (fun p hp => absurd ⟨hb, p, hp⟩ h.1) (fun _ => vMo_withdraw_19 ⟨fun y => absurd rfl y, fun _ => qe hq h.2.symm⟩))), fun q => absurd (by decide) q⟩) (fun hb => vMo_withdraw_5 ⟨fun q => absurd rfl q, fun _ => qe hq h.2.symm⟩))
theorem aMo_wdA {v l x : Int} (hw : Wf T a P kp S) (hw2 : tWF T2) (hR : Ref M r T a P kp S tt g z) (h : spWdA T v l x T2) (kk : ∀ (N : xM) (t2 : Int), 0 ≤ t2 → isTd T2 T t2 → Ref N r T2 (pA a) (pP a P T) kp S t2 g z → frR M N r → Q (xI x) N) : Ru (d + 100) kMo_withdraw 0 [xO 9 r, xI v, xI l, xU] [] M Q := by
  obtain ⟨hb, p, hp, e2, hx⟩ := h
  have rb := RL_b hw.1 hR.2.1
  have hnum := RL_num hw.1 hR.2.1
  refine vMo_withdraw_0 (qMo_isBeginning (fun _ => vMo_withdraw_5 ⟨fun _ => qMo_unsigned (vMo_withdraw_15 (qMo_find hR.1 hw.1 (fun q hq => vMo_withdraw_19 ⟨fun _ => ?_, fun y => ?_⟩) (fun hno => absurd hp (hno p)))), fun q => absurd (by decide) q⟩) (fun n => absurd hb n))
  · have eq : q = p := isAt_u hw.1 hq hp
    subst eq
    refine qMo_keepsAct hw hR.1 hR.2.2.2.1.1 hR.2.2.2.1.2 (fun N m2 m3 hf => vMo_withdraw_31 ?_)
    have hT : RT N (r + 1) 0 T := RT_fr hR.1 (fun j => hf _ _ (by omega) (by omega))
    refine qMo_drops hw.1 (RN_of.mp hT) hp.1 hp.2.1 (fun N2 hc3 hf2 => vMo_withdraw_36 ?_)
    rw [← e2] at hc3
    have hA := ActR_of hR m2 m3 hf (RN_of.mpr hc3) hf2
    refine qMo_isDone hw hw2 hA hnum (by omega) (fun N3 t2 t0 ht hR3 hf3 => vMo_withdraw_40 ⟨by decide, ?_⟩)
    refine qe (kk N3 t2 t0 ht hR3 (fun b j h => by rw [hf3 b j (chD_fr h), hf2 b j (by omega)]; exact hf b j (by omega) (by omega))) ?_
    rw [hR3.1.1, hx, e2]
    rfl
  · have := hq.1; omega
theorem bo_withdraw (v l : Int) : Bo kRS_withdraw [xO 8 0, xI v, xI l, xU] kMo_withdraw [xO 9 198, xI v, xI l, xU] xI :=
  bo_act (fun σ x => spWdR σ.1 v l x) (fun σ x T2 => spWdA σ.1 v l x T2) (fun _ _ _ _ _ _ _ _ _ _ _ hw hC kk ka => aRS_withdraw hw hC kk ka) (fun _ _ _ _ _ _ _ _ _ _ _ _ hw hR h kk => aMo_wdR hw hR h kk) (fun _ _ _ _ _ _ _ _ _ _ _ _ _ hw hw2 hR h kk => aMo_wdA hw hw2 hR h kk)
end Add

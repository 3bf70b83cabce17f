/-! STRIDES as digits, in both. -/
def dq (n : Int) : Nat → Int
  | 0 => n
  | i + 1 => dq n i / 10
theorem dq_nn {n : Int} (h : 0 ≤ n) : ∀ i : Nat, 0 ≤ dq n i
  | 0 => h
  | i + 1 => by
    have := dq_nn h i
    show 0 ≤ dq n i / 10
    omega
theorem dq_0 {n : Int} {i : Nat} (h : dq n i = 0) : ∀ j : Nat, dq n (i + j) = 0
  | 0 => h
  | j + 1 => by
    have := dq_0 h j
    show dq n (i + j) / 10 = 0
    rw [this]; rfl
theorem dq_le {n : Int} (h : 0 ≤ n) : ∀ i : Nat, dq n i ≤ n
  | 0 => Int.le_refl _
  | i + 1 => by
    have := dq_le h i
    have := dq_nn h i
    show dq n i / 10 ≤ n
    omega
theorem dq_pow (n : Int) : ∀ i : Nat, n / 10 ^ i = dq n i
  | 0 => by show n / 1 = n; omega
  | i + 1 => by
    have pi : (0 : Int) < 10 ^ i := Int.pow_pos (by decide)
    have h : n / 10 ^ i / 10 = n / (10 ^ i * 10) := by rw [Int.ediv_ediv, if_neg (fun z => absurd z.1 (by omega)), Int.sub_zero]
    rw [Int.pow_succ, ← h, dq_pow n i]
    rfl
def dgF (n : Int) : Int → Int := fun i => dq n i.toNat % 10
/-- strides that a number's digits tell -/
def isDs (n k : Int) (S : Int → Int) : Prop := okS k S ∧ dq n k.toNat = 0 ∧ 0 < dq n (k - 1).toNat ∧ ∀ j : Int, 0 ≤ j → j < k → S j = dgF n (k - 1 - j)
theorem dq_u {n k k2 : Int} (k0 : 1 ≤ k) (k20 : 1 ≤ k2) (h : dq n k.toNat = 0) (h2 : dq n k2.toNat = 0) (g : 0 < dq n (k - 1).toNat) (g2 : 0 < dq n (k2 - 1).toNat) : k = k2 := by
  rcases (show k = k2 ∨ k < k2 ∨ k2 < k by omega) with e | e | e
  · exact e
  · have := dq_0 h (k2 - 1 - k).toNat
    rw [show k.toNat + (k2 - 1 - k).toNat = (k2 - 1).toNat by omega] at this
    omega
  · have := dq_0 h2 (k - 1 - k2).toNat
    rw [show k2.toNat + (k - 1 - k2).toNat = (k - 1).toNat by omega] at this
    omega
theorem isDs_u {n k k2 : Int} {S S2 : Int → Int} (h : isDs n k S) (g : isDs n k2 S2) : k = k2 ∧ ∀ j : Int, 0 ≤ j → j < k → S j = S2 j := by
  have e := dq_u h.1.1.1 g.1.1.1 h.2.1 g.2.1 h.2.2.1 g.2.2.1
  subst e
  exact ⟨rfl, fun j j0 j1 => by rw [h.2.2.2 j j0 j1, g.2.2.2 j j0 j1]⟩
/-- a sum from its end -/
theorem tB_rev {f S : Int → Int} {k : Int} (hS : ∀ j : Int, 0 ≤ j → j < k → S j = f (k - 1 - j)) : ∀ m : Nat, (m : Int) ≤ k → tB S m + tB f (k - m).toNat = tB f k.toNat
  | 0, _ => by
    show 0 + tB f (k - 0).toNat = _
    rw [Int.sub_zero, Int.zero_add]
  | m + 1, hm => by
    have ih := tB_rev hS m (by omega)
    have e := tB_nx (S := f) (c := k - (m + 1 : Nat)) (by omega)
    rw [show k - ((m + 1 : Nat) : Int) + 1 = k - m by omega] at e
    have e2 := hS m (by omega) (by omega)
    rw [show k - 1 - (m : Int) = k - ((m + 1 : Nat) : Int) by omega] at e2
    show tB S m + S m + _ = _
    rw [e2]
    omega
theorem tB_up {S : Int → Int} {k : Int} (hS : ∀ j : Int, 0 ≤ j → j < k → 2 ≤ S j ∧ S j ≤ 6) : ∀ m : Nat, ∀ i : Int, 0 ≤ i → i + m ≤ k → tB S i.toNat ≤ tB S (i + m).toNat
  | 0, i, i0, _ => by rw [show i + ((0 : Nat) : Int) = i by omega]; exact Int.le_refl _
  | m + 1, i, i0, hi => by
    have ih := tB_up hS m i i0 (by omega)
    rw [show i + ((m + 1 : Nat) : Int) = i + m + 1 by omega, tB_nx (by omega)]
    have := hS (i + m) (by omega) (by omega)
    omega
section Digits
variable {d : Nat} {M : xM} {Q : xQ} {t t2 r n : Int}
theorem qTable_turnStrides {k : Int} (ek : M t 6 = k) (k0 : 1 ≤ k) (k1 : k ≤ 16) (h : ∀ N : xM, (∀ j : Int, 0 ≤ j → j < k → N (t + 6) j = M (t + 6) (k - 1 - j)) → (∀ b j : Int, ¬ b = t + 6 → N b j = M b j) → Q xU N) : Ru d kTable_turnStrides 0 [xO 6 t, xU, xU, xU] [] M Q := by
  refine vTable_turnStrides_0 ?_
  rw [ek, z32_id (by omega) (by omega)]
  have main : ∀ i : Int, i ≤ k → ∀ (N : xM) (w3 : xV), 0 ≤ i → (∀ j : Int, 0 ≤ j → j < k → (j < i ∨ k - 1 - i < j) → N (t + 6) j = M (t + 6) (k - 1 - j)) → (∀ j : Int, i ≤ j → j ≤ k - 1 - i → N (t + 6) j = M (t + 6) j) → (∀ b j : Int, ¬ b = t + 6 → N b j = M b j) → Ru d kTable_turnStrides 9 [xO 6 t, xI i, xI (k - 1 - i), w3] [] N Q := by
    refine loop_up k (fun i hi ih N w3 i0 h1 h2 hf => ?_)
    refine vTable_turnStrides_9 ⟨fun y => h N (fun j j0 j1 => ?_) hf, fun y => ⟨fun y2 => by omega, fun y2 => ⟨by omega, by omega, by omega, by omega, ?_⟩⟩⟩
    · by_cases e : j < i ∨ k - 1 - i < j
      · exact h1 j j0 j1 e
      · rw [h2 j (by omega) (by omega), show k - 1 - j = j by omega]
    · rw [z32_id (x := i + 1) (by omega) (by omega), z32_id (by omega) (by omega), show k - 1 - i + -1 = k - 1 - (i + 1) by omega]
      refine ih (i + 1) (by omega) (by omega) _ _ (by omega) (fun j j0 j1 hj => ?_) (fun j j0 j1 => ?_) (fun b j hb => by rw [up_ne hb, up_ne hb]; exact hf b j hb)
      · by_cases e1 : j = k - 1 - i
        · rw [e1, up_same, h2 i (by omega) (by omega), show k - 1 - (k - 1 - i) = i by omega]
        · rw [up_off e1]
          by_cases e2 : j = i
          · rw [e2, up_same, h2 (k - 1 - i) (by omega) (by omega)]
          · rw [up_off e2]
            exact h1 j j0 j1 (by omega)
      · rw [up_off (by omega), up_off (by omega)]
        exact h2 j (by omega) (by omega)
  have := main 0 (by omega) M xU (by decide) (fun j j0 j1 hj => by omega) (fun j j0 j1 => rfl) (fun _ _ _ => rfl)
  rw [Int.sub_zero] at this
  exact this
theorem qTable_takeStrides (n1 : n < 9223372036854775808) (h1 : ∀ (N : xM) (k : Int) (S : Int → Int), isDs n k S → N t 6 = k → (∀ j : Int, 0 ≤ j → j < k → N (t + 6) j = S j) → (∀ b j : Int, ¬ (b = t ∧ j = 6) → ¬ b = t + 6 → N b j = M b j) → Q (xI 1) N) (h0 : ∀ N : xM, (∀ k S, ¬ isDs n k S) → (∀ b j : Int, ¬ (b = t ∧ j = 6) → ¬ b = t + 6 → N b j = M b j) → Q (xI 0) N) : Ru (d + 1) kTable_takeStrides 0 [xO 6 t, xL n, xU, xU, xU, xU, xU, xU] [] M Q := by
  refine vTable_takeStrides_0 ?_
  by_cases hn : n ≤ 0
  · have no : ∀ k S, ¬ isDs n k S := fun k S hd => by
      have h9 := hd.2.2.1
      have : dq n (k - 1).toNat ≤ 0 := by
        have gen : ∀ i : Nat, dq n i ≤ 0 := fun i => by
          induction i with
          | zero => exact hn
          | succ i ih => show dq n i / 10 ≤ 0; omega
        exact gen _
      omega
    have fr : ∀ b j : Int, ¬ (b = t ∧ j = 6) → ¬ b = t + 6 → up M t 6 0 b j = M b j := fun b j h7 _ => up_un (by omega)
    refine vTable_takeStrides_13 ⟨fun q => absurd q (by decide), fun _ => ⟨fun _ => ⟨fun _ => h0 _ no fr, fun _ => ⟨fun q => absurd q (by decide), fun _ => h0 _ no fr⟩⟩, fun q => absurd hn q⟩⟩
  · have nn := dq_nn (n := n) (by omega)
    have nl := dq_le (n := n) (by omega)
    have main : ∀ i : Int, i ≤ 16 → ∀ (N : xM) (w7 : xV), 0 ≤ i → (∀ j : Int, 0 ≤ j → j < i → 0 < dq n j.toNat ∧ 2 ≤ dgF n j ∧ dgF n j ≤ 6) → N t 6 = i → (∀ j : Int, 0 ≤ j → j < i → N (t + 6) j = dgF n j) → (∀ b j : Int, ¬ (b = t ∧ j = 6) → ¬ b = t + 6 → N b j = M b j) → Ru (d + 1) kTable_takeStrides 13 [xO 6 t, xL n, xU, xL (dq n i.toNat), xU, xI (tB (dgF n) i.toNat), xI i, w7] [] N Q := by
      refine loop_up 16 (fun i hi ih N w7 i0 hd e6 hN hf => ?_)
      have nni := nn i.toNat
      have nli := nl i.toNat
      have tb := tB_nn (S := dgF n) i.toNat (fun j j0 j1 => (hd j j0 (by omega)).2)
      -- nothing is left
      have fin : dq n i.toNat = 0 → (¬ dq n i.toNat = 0 → Q (xI 0) N) ∧ (¬ (¬ dq n i.toNat = 0) → (tB (dgF n) i.toNat = 32 → Ru d kTable_turnStrides 0 [xO 6 t, xU, xU, xU] [] N (fun r N => Ru (d + 1) kTable_takeStrides 104 [xO 6 t, xL n, xU, xL (dq n i.toNat), xU, xI (tB (dgF n) i.toNat), xI i, w7] [] N Q)) ∧ (¬ (tB (dgF n) i.toNat = 32) → Q (xI 0) N)) := fun e0 => by
        refine ⟨fun q => absurd e0 q, fun _ => ⟨fun q => ?_, fun q => h0 N (fun k S hk => ?_) hf⟩⟩
        · have i1 : 1 ≤ i := by
            refine Classical.byContradiction fun z => ?_
            rw [show i = 0 by omega] at q
            exact absurd q (by show ¬ (0 : Int) = 32; decide)
          refine qTable_turnStrides e6 i1 hi (fun N2 hN2 hf2 => vTable_takeStrides_104 (h1 N2 i (fun j => dgF n (i - 1 - j)) ⟨⟨⟨i1, hi⟩, fun l l0 l1 => (hd (i - 1 - l) (by omega) (by omega)).2, ?_⟩, e0, (hd (i - 1) (by omega) (by omega)).1, fun j j0 j1 => rfl⟩ (by rw [hf2 _ _ (by omega)]; exact e6) (fun j j0 j1 => by rw [hN2 j j0 j1]; exact hN _ (by omega) (by omega)) (fun b j h7 h8 => by rw [hf2 b j h8]; exact hf b j h7 h8)))
          have hrev := tB_rev (f := dgF n) (S := fun j => dgF n (i - 1 - j)) (k := i) (fun j _ _ => rfl) i.toNat (by omega)
          rw [show (i - (i.toNat : Int)).toNat = 0 by omega] at hrev
          have e00 : tB (dgF n) 0 = 0 := rfl
          omega
        · have hk1 := hk.1.1.1
          have ek : k = i := by
            have i1 : 1 ≤ i := by
              refine Classical.byContradiction fun z => ?_
              rw [show i = 0 by omega] at e0
              have : n = 0 := e0
              omega
            exact dq_u hk1 i1 hk.2.1 e0 hk.2.2.1 (hd (i - 1) (by omega) (by omega)).1
          subst ek
          have hrev := tB_rev (f := dgF n) (S := S) (k := k) hk.2.2.2 k.toNat (by omega)
          rw [show (k - (k.toNat : Int)).toNat = 0 by omega] at hrev
          have e00 : tB (dgF n) 0 = 0 := rfl
          have := hk.1.2.2
          omega
      -- there is a digit more that can't be, or too many
      have no : 0 < dq n i.toNat → ¬ (i < 16 ∧ 2 ≤ dgF n i ∧ dgF n i ≤ 6) → Q (xI 0) N := fun hp hb => h0 N (fun k S hk => by
        have hk1 := hk.1.1
        have ik : i < k := by
          refine Classical.byContradiction fun z => ?_
          have := dq_0 hk.2.1 (i - k).toNat
          rw [show k.toNat + (i - k).toNat = i.toNat by omega] at this
          omega
        have h9 := hk.2.2.2 (k - 1 - i) (by omega) (by omega)
        rw [show k - 1 - (k - 1 - i) = i by omega] at h9
        have h8 := hk.1.2.1 (k - 1 - i) (by omega) (by omega)
        rw [h9] at h8
        exact hb ⟨by omega, h8⟩) hf
      refine vTable_takeStrides_13 ⟨fun y => ?_, fun y => ⟨fun y2 => fin (by omega), fun y2 => ⟨by decide, ?_⟩⟩⟩
      · by_cases e0 : dq n i.toNat = 0
        · exact fin e0
        · exact ⟨fun _ => no (by omega) (by omega), fun q => absurd e0 q⟩
      · have edg : dgF n i = dq n i.toNat % 10 := rfl
        rw [lrem_eq nni (by omega) (by decide) (by decide), ldiv_eq nni (by omega) (by decide) (by decide), z32_id (x := dq n i.toNat % 10) (by omega) (by omega), ← edg]
        refine ⟨fun y3 => no (by omega) (by omega), fun y3 => ⟨fun y4 => ⟨by omega, by decide, ?_⟩, fun y4 => no (by omega) (by omega)⟩⟩
        rw [z32_id (x := i + 1) (by omega) (by omega), z32_id (by omega) (by omega)]
        have ih' := ih (i + 1) (by omega) (by omega) (up (up N (t + 6) i (dgF n i)) t 6 (i + 1)) (xI (dgF n i)) (by omega) (fun j j0 j1 => by
          by_cases e : j = i
          · rw [e]; exact ⟨by omega, by omega, y4⟩
          · exact hd j j0 (by omega)) up_same (fun j j0 j1 => by
          rw [up_un (by omega)]
          by_cases e : j = i
          · rw [e, up_same]
          · rw [up_off e]; exact hN j j0 (by omega)) (fun b j h7 h8 => by rw [up_un (by omega), up_un (by omega)]; exact hf b j h7 h8)
        rw [tB_nx i0] at ih'
        have e5 : dq n (i + 1).toNat = dq n i.toNat / 10 := by rw [show (i + 1).toNat = i.toNat + 1 by omega]; rfl
        rw [e5] at ih'
        exact ih'
    exact main 0 (by decide) _ _ (by decide) (fun j j0 j1 => by omega) up_same (fun j j0 j1 => by omega) (fun b j h7 _ => up_un (by omega))
theorem qMo_readsDigits (n0 : 0 < n) (n1 : n < 9223372036854775808) (h1 : ∀ (N : xM) (k : Int) (S : Int → Int), isDs n k S → N r 32 = k → (∀ j : Int, 0 ≤ j → j < k → N (r + 21) j = S j) → (∀ b j : Int, ¬ (b = r ∧ j = 32) → ¬ b = r + 21 → N b j = M b j) → Q (xI 1) N) (h0 : ∀ N : xM, (∀ k S, ¬ isDs n k S) → (∀ b j : Int, ¬ (b = r ∧ j = 32) → ¬ b = r + 21 → N b j = M b j) → Q (xI 0) N) : Ru (d + 2) kMo_readsDigits 0 [xO 9 r, xL n, xU, xU, xU, xU, xU] [] M Q := by
  have nn := dq_nn (n := n) (by omega)
  have pp : ∀ e : Nat, (0 : Int) < 10 ^ e := fun e => Int.pow_pos (by decide)
  refine vMo_readsDigits_0 ?_
  -- the highest unit
  have unit : ∀ x : Int, x ≤ n → ∀ e : Nat, x = 10 ^ e → Ru (d + 2) kMo_readsDigits 2 [xO 9 r, xL n, xU, xL x, xU, xU, xU] [] M Q := by
    refine loop_up n (fun x hx ih e ex => ?_)
    have px := pp e
    refine vMo_readsDigits_2 ⟨by omega, ?_⟩
    rw [ldiv_eq (by omega) n1 (by omega) (by omega)]
    have edq : n / x = dq n e := by rw [ex]; exact dq_pow n e
    rw [edq]
    refine ⟨fun y => ?_, fun y => ?_⟩
    · -- digits from the highest one on
      have hpos : 0 < dq n e := by
        rw [← edq]
        have h9 : 1 ≤ n / x := Int.le_ediv_of_mul_le (by omega) (by omega)
        omega
      have hk0 : dq n (e + 1) = 0 := by
        have h9 : dq n (e + 1) = dq n e / 10 := rfl
        have := nn e
        omega
      have main : ∀ c : Int, c ≤ e + 1 → ∀ (N : xM) (u : Int), 0 ≤ c → c ≤ 16 → (c ≤ e → u = 10 ^ ((e : Int) - c).toNat) → (c = e + 1 → u = 0) → (∀ j : Int, 0 ≤ j → j < c → N (r + 21) j = dgF n (e - j) ∧ 2 ≤ dgF n (e - j) ∧ dgF n (e - j) ≤ 6) → N r 32 = c → tB (fun j => dgF n (e - j)) c.toNat ≤ 32 → (∀ b j : Int, ¬ (b = r ∧ j = 32) → ¬ b = r + 21 → N b j = M b j) → Ru (d + 2) kMo_readsDigits 29 [xO 9 r, xL n, xU, xL x, xU, xL u, xU] [] N Q := by
        refine loop_up ((e : Int) + 1) (fun c hc ih2 N u c0 c16 hu hu0 hS e32 htb hf => ?_)
        have same : ∀ k S, isDs n k S → k = e + 1 ∧ ∀ j : Int, 0 ≤ j → j < k → S j = dgF n (e - j) := fun k S hk => by
          have ek : k = e + 1 := dq_u hk.1.1.1 (by omega) hk.2.1 (by rw [show ((e : Int) + 1).toNat = e + 1 by omega]; exact hk0) hk.2.2.1 (by rw [show ((e : Int) + 1 - 1).toNat = e by omega]; exact hpos)
          exact ⟨ek, fun j j0 j1 => by rw [hk.2.2.2 j j0 j1, ek, show (e : Int) + 1 - 1 - j = e - j by omega]⟩
        refine vMo_readsDigits_29 ⟨fun q => ?_, fun q => ?_⟩
        · have ec : c = e + 1 := by
            refine Classical.byContradiction fun z => ?_
            have := hu (by omega)
            have := pp ((e : Int) - c).toNat
            omega
          refine qMo_strideSum (S := fun j => dgF n (e - j)) e32 c0 (by omega) hS (vMo_readsDigits_69 ⟨fun q2 => h0 N (fun k S hk => ?_) hf, fun q2 => h1 N c (fun j => dgF n (e - j)) ⟨⟨⟨by omega, c16⟩, fun l l0 l1 => (hS l l0 l1).2, Classical.not_not.mp q2⟩, by rw [ec, show ((e : Int) + 1).toNat = e + 1 by omega]; exact hk0, by rw [ec, show ((e : Int) + 1 - 1).toNat = e by omega]; exact hpos, fun j j0 j1 => by show dgF n (e - j) = dgF n (c - 1 - j); rw [ec, show (e : Int) + 1 - 1 - j = e - j by omega]⟩ e32 (fun j j0 j1 => (hS j j0 j1).1) hf⟩)
          obtain ⟨ek, es⟩ := same k S hk
          refine q2 ?_
          rw [ec, ← ek]
          rw [← hk.1.2.2]
          exact (tB_cg k.toNat (fun j j0 j1 => es j j0 (by omega))).symm
        · have hce : c ≤ e := by
            refine Classical.byContradiction fun z => ?_
            have := hu0 (by omega)
            omega
          have eu := hu hce
          have pu := pp ((e : Int) - c).toNat
          have ule : u ≤ n := by
            rw [eu]
            have h9 : (10 : Int) ^ ((e : Int) - c).toNat ≤ 10 ^ e := by
              have := Nat.pow_le_pow_right (show 0 < 10 by decide) (show ((e : Int) - c).toNat ≤ e by omega)
              have h8 : ((10 ^ ((e : Int) - c).toNat : Nat) : Int) ≤ ((10 ^ e : Nat) : Int) := by omega
              rw [Int.natCast_pow, Int.natCast_pow] at h8
              exact h8
            omega
          have edv : ldiv n u = dq n ((e : Int) - c).toNat := by
            rw [ldiv_eq (by omega) n1 (by omega) (by omega), eu]
            exact dq_pow n _
          have nnc := nn ((e : Int) - c).toNat
          have nlc := dq_le (n := n) (by omega) ((e : Int) - c).toNat
          have edg : dgF n (e - c) = dq n ((e : Int) - c).toNat % 10 := rfl
          refine ⟨by omega, by decide, ?_⟩
          rw [edv, lrem_eq nnc (by omega) (by decide) (by decide), z32_id (by omega) (by omega), ← edg]
          refine qMo_addsStride (S := fun j => dgF n (e - j)) e32 c0 (by omega) hS (by omega) (by omega) (fun q1 q2 => vMo_readsDigits_49 ⟨fun _ => ⟨by decide, ?_⟩, fun q => absurd (by decide) q⟩) (fun q2 => vMo_readsDigits_49 ⟨fun q => absurd rfl q, fun _ => h0 N (fun k S hk => ?_) hf⟩)
          · rw [ldiv_eq (by omega) (by omega) (by decide) (by decide)]
            have tb2 := tB_nn (S := fun j => dgF n (e - j)) c.toNat (fun j j0 j1 => (hS j j0 (by omega)).2)
            refine ih2 (c + 1) (by omega) (by omega) _ _ (by omega) (by omega) (fun z => ?_) (fun z => ?_) (fun j j0 j1 => ?_) up_same (by rw [tB_nx c0]; exact q2) (fun b j h7 h8 => by rw [up_un (by omega), up_un (by omega)]; exact hf b j h7 h8)
            · rw [eu, show ((e : Int) - c).toNat = ((e : Int) - (c + 1)).toNat + 1 by omega, Int.pow_succ]
              exact Int.mul_ediv_cancel _ (by decide)
            · rw [eu, show ((e : Int) - c).toNat = 0 by omega]
              rfl
            · rw [up_un (by omega)]
              by_cases ej : j = c
              · rw [ej, up_same]; exact ⟨rfl, q1⟩
              · rw [up_off ej]; exact hS j j0 (by omega)
          · obtain ⟨ek, es⟩ := same k S hk
            have e1 := es c c0 (by omega)
            have h8 := hk.1.2.1 c c0 (by omega)
            rw [e1] at h8
            refine q2 ⟨h8, ?_⟩
            have h9 := tB_up hk.1.2.1 (k - (c + 1)).toNat (c + 1) (by omega) (by omega)
            rw [show c + 1 + ((k - (c + 1)).toNat : Int) = k by omega, hk.1.2.2, tB_nx c0, e1] at h9
            have e7 : tB S c.toNat = tB (fun j => dgF n (e - j)) c.toNat := tB_cg c.toNat (fun j j0 j1 => es j j0 (by omega))
            rw [e7] at h9
            exact h9
      exact main 0 (by omega) _ x (by decide) (by decide) (fun _ => by rw [ex, Int.sub_zero, Int.toNat_natCast]) (fun z => by omega) (fun j j0 j1 => by omega) up_same (by show (0 : Int) ≤ 32; decide) (fun b j h7 _ => up_un (by omega))
    · have h10 : x * 10 ≤ n := by
        have h9 : 10 ≤ n / x := by rw [edq]; omega
        have := Int.mul_le_of_le_ediv (a := 10) (b := n) (c := x) (by omega) h9
        omega
      rw [z64_id (by omega) (by omega)]
      exact ih (x * 10) (by omega) h10 (e + 1) (by rw [Int.pow_succ, ex])
  exact unit 1 (by omega) 0 rfl
theorem qTable_hasStridesOf {T : TB} {k : Int} {S : Int → Int} (hc : CT M t T) (hz : 1 ≤ tZ T ∧ tZ T ≤ 16) (ek : M t2 6 = k) (eS : ∀ j : Int, 0 ≤ j → j < k → M (t2 + 6) j = S j) (h1 : (tZ T = k ∧ ∀ j : Int, 0 ≤ j → j < k → tS T j = S j) → Q (xI 1) M) (h0 : ¬ (tZ T = k ∧ ∀ j : Int, 0 ≤ j → j < k → tS T j = S j) → Q (xI 0) M) : Ru d kTable_hasStridesOf 0 [xO 6 t, xO 6 t2, xU] [] M Q := by
  refine vTable_hasStridesOf_0 ?_
  rw [hc.2.2.2.1, ek]
  refine ⟨fun y => ?_, fun y => h0 (fun z => y z.1)⟩
  refine loop_up k (P := fun i => 0 ≤ i → (∀ j : Int, 0 ≤ j → j < i → tS T j = S j) → Ru d kTable_hasStridesOf 15 [xO 6 t, xO 6 t2, xI i] [] M Q) (fun i hi ih i0 hok => ?_) 0 (by omega) (by decide) (fun j j0 j1 => by omega)
  refine vTable_hasStridesOf_15 ?_
  rw [hc.2.2.2.1]
  refine ⟨fun y2 => h1 ⟨y, fun j j0 j1 => hok j j0 (by omega)⟩, fun y2 => ⟨fun y3 => by omega, fun y3 => ⟨by omega, by omega, ?_⟩⟩⟩
  rw [hc.2.2.2.2 i i0 (by omega), eS i i0 (by omega), z32_id (by omega) (by omega)]
  refine ⟨fun y4 => ih (i + 1) (by omega) (by omega) (by omega) (fun j j0 j1 => ?_), fun y4 => h0 (fun z => y4 (z.2 i i0 (by omega)))⟩
  by_cases e : j = i
  · rw [e]; exact y4
  · exact hok j j0 (by omega)
theorem qMo_areStrides {T : TB} {k : Int} {S : Int → Int} (hc : RT M (r + 1) 0 T) (hz : 1 ≤ tZ T ∧ tZ T ≤ 16) (ek : M r 32 = k) (k0 : 1 ≤ k) (k1 : k ≤ 16) (eS : ∀ j : Int, 0 ≤ j → j < k → M (r + 21) j = S j) (h1 : (tZ T = k ∧ ∀ j : Int, 0 ≤ j → j < k → tS T j = S j) → Q (xI 1) M) (h0 : ¬ (tZ T = k ∧ ∀ j : Int, 0 ≤ j → j < k → tS T j = S j) → Q (xI 0) M) : Ru d kMo_areStrides 0 [xO 9 r, xU, xU] [] M Q := by
  have hc1 : M (r + 1) 1 = tZ T := hc.2.1
  have main : ∀ i : Int, i ≤ k → ∀ x : Int, 0 ≤ i → ((x = 1 ∧ tZ T = k ∧ ∀ j : Int, 0 ≤ j → j < i → tS T j = S j) ∨ (x = 0 ∧ ¬ (tZ T = k ∧ ∀ j : Int, 0 ≤ j → j < k → tS T j = S j))) → Ru d kMo_areStrides 21 [xO 9 r, xI x, xI i] [] M Q := by
    refine loop_up k (fun i hi ih x i0 hx => ?_)
    refine vMo_areStrides_21 ?_
    rw [ek]
    refine ⟨fun y => ?_, fun y => ?_⟩
    · rcases hx with ⟨e, e1, e2⟩ | ⟨e, e1⟩
      · subst e; exact h1 ⟨e1, fun j j0 j1 => e2 j j0 (by omega)⟩
      · subst e; exact h0 e1
    · rw [z32_id (x := 243 + i) (by omega) (by omega), z32_id (x := i + 1) (by omega) (by omega)]
      refine ⟨fun q => ?_, fun q => ⟨by omega, by omega, fun q2 => ?_, fun q2 => ?_⟩⟩
      · rcases hx with ⟨e, -⟩ | ⟨e, e1⟩
        · omega
        · exact ih (i + 1) (by omega) (by omega) 0 (by omega) (Or.inr ⟨rfl, e1⟩)
      · rcases hx with ⟨e, e1, e2⟩ | ⟨e, -⟩
        · have es := hc.2.2.2.2 i i0 (by omega)
          rw [show (0 : Int) + 243 + i = 243 + i by omega] at es
          rw [es, eS i i0 (by omega)] at q2
          exact ih (i + 1) (by omega) (by omega) 0 (by omega) (Or.inr ⟨rfl, fun z => q2 (z.2 i i0 (by omega))⟩)
        · exact absurd e q
      · rcases hx with ⟨e, e1, e2⟩ | ⟨e, -⟩
        · have es := hc.2.2.2.2 i i0 (by omega)
          rw [show (0 : Int) + 243 + i = 243 + i by omega] at es
          rw [es, eS i i0 (by omega)] at q2
          refine ih (i + 1) (by omega) (by omega) 1 (by omega) (Or.inl ⟨rfl, e1, fun j j0 j1 => ?_⟩)
          by_cases ej : j = i
          · rw [ej]; exact Classical.not_not.mp q2
          · exact e2 j j0 (by omega)
        · exact absurd e q
  refine vMo_areStrides_0 ?_
  rw [hc1, ek]
  refine ⟨by decide, fun y => main 0 (by omega) 0 (by decide) (Or.inr ⟨rfl, fun z => y z.1⟩), fun y => main 0 (by omega) 1 (by decide) (Or.inl ⟨rfl, Classical.not_not.mp y, fun j j0 j1 => by omega⟩)⟩
end Digits

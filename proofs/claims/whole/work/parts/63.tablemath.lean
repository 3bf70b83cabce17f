/-! TABLES: what a put and a withdrawal make of them. -/
def uf (f : Int → Int) (i v : Int) : Int → Int := fun k => if k = i then v else f k
def insF (f : Int → Int) (p v : Int) : Int → Int := fun k => if k < p then f k else if k = p then v else f (k - 1)
def delF (f : Int → Int) (p : Int) : Int → Int := fun k => if k < p then f k else f (k + 1)
theorem uf_at {f : Int → Int} {i v k : Int} (h : k = i) : uf f i v k = v := if_pos h
theorem uf_ne {f : Int → Int} {i v k : Int} (h : ¬ k = i) : uf f i v k = f k := if_neg h
theorem insF_lt {f : Int → Int} {p v k : Int} (h : k < p) : insF f p v k = f k := if_pos h
theorem insF_at {f : Int → Int} {p v k : Int} (h : k = p) : insF f p v k = v := by
  unfold insF
  rw [if_neg (by omega), if_pos h]
theorem insF_gt {f : Int → Int} {p v k : Int} (h : p < k) : insF f p v k = f (k - 1) := by
  unfold insF
  rw [if_neg (by omega), if_neg (by omega)]
theorem delF_lt {f : Int → Int} {p k : Int} (h : k < p) : delF f p k = f k := if_pos h
theorem delF_ge {f : Int → Int} {p k : Int} (h : p ≤ k) : delF f p k = f (k + 1) := if_neg (by omega)
def one1 (p : Prop) [Decidable p] : Int := if p then 1 else 0
theorem cnt_s {H : Int → Int} {h : Int} {n : Nat} : cnt H h (n + 1) = cnt H h n + one1 (H n = h) := rfl
theorem cnt_ins {H : Int → Int} {p v h : Int} (p0 : 0 ≤ p) : ∀ {n : Nat}, p ≤ n → cnt (insF H p v) h (n + 1) = cnt H h n + one1 (v = h)
  | 0, hp => by
    have e : insF H p v 0 = v := insF_at (by omega)
    show 0 + one1 (insF H p v 0 = h) = 0 + one1 (v = h)
    rw [e]
  | n + 1, hp => by
    rw [cnt_s]
    by_cases e : p = (n + 1 : Nat)
    · rw [insF_at e.symm, cnt_cg (H := insF H p v) (H2 := H) (n := n + 1) (fun k h0 h1 => by rw [insF_lt (by omega)])]
    · rw [cnt_ins p0 (n := n) (by omega), insF_gt (by omega), cnt_s (H := H), show (((n + 1 : Nat)) : Int) - 1 = n by omega]
      omega
theorem cnt_del {H : Int → Int} {p h : Int} (p0 : 0 ≤ p) {n : Nat} (hp : p ≤ n) : cnt (delF H p) h n = cnt H h (n + 1) - one1 (H p = h) := by
  have h1 := cnt_ins (H := delF H p) (p := p) (v := H p) (h := h) p0 hp
  have h2 : cnt (insF (delF H p) p (H p)) h (n + 1) = cnt H h (n + 1) := cnt_cg (fun k h0 h1 => by
    rcases (show k < p ∨ k = p ∨ p < k by omega) with e | e | e
    · rw [insF_lt e, delF_lt e]
    · rw [insF_at e, e]
    · rw [insF_gt e, delF_ge (by omega), show k - 1 + 1 = k by omega])
  omega
theorem cnt_uf {H : Int → Int} {p v h : Int} (p0 : 0 ≤ p) {n : Nat} (hp : p < n) : cnt (uf H p v) h n = cnt H h n - one1 (H p = h) + one1 (v = h) := by
  obtain ⟨m, rfl⟩ : ∃ m, n = m + 1 := ⟨n - 1, by omega⟩
  have h1 := cnt_del (H := uf H p v) (h := h) p0 (n := m) (by omega)
  have h2 := cnt_del (H := H) (h := h) p0 (n := m) (by omega)
  have h3 : cnt (delF (uf H p v) p) h m = cnt (delF H p) h m := cnt_cg (fun k h0 h1 => by
    rcases (show k < p ∨ p ≤ k by omega) with e | e
    · rw [delF_lt e, delF_lt e, uf_ne (by omega)]
    · rw [delF_ge e, delF_ge e, uf_ne (by omega)])
  rw [uf_at rfl] at h1
  omega
/-- rules by hops: all together -/
def csum (H : Int → Int) (n : Nat) : Nat → Int
  | 0 => 0
  | m + 1 => csum H n m + cnt H m n
theorem csum_s {H : Int → Int} {n : Nat} : ∀ m : Nat, csum H (n + 1) m = csum H n m + one1 (0 ≤ H n ∧ H n < m)
  | 0 => by
    unfold csum one1
    rw [if_neg (by omega)]
    rfl
  | m + 1 => by
    have ih := csum_s (H := H) (n := n) m
    unfold csum
    rw [ih, cnt_s]
    unfold one1
    by_cases e : H n = m
    · rw [if_pos e, if_neg (by omega), if_pos (by omega)]
      omega
    · rw [if_neg e]
      by_cases e2 : 0 ≤ H n ∧ H n < m
      · rw [if_pos e2, if_pos (by omega)]
        omega
      · rw [if_neg e2, if_neg (by omega)]
        omega
theorem csum_0 {H : Int → Int} : ∀ m : Nat, csum H 0 m = 0
  | 0 => rfl
  | m + 1 => by
    unfold csum
    rw [csum_0 m]
    rfl
theorem csum_le {H : Int → Int} {m : Nat} : ∀ n : Nat, csum H n m ≤ n
  | 0 => by rw [csum_0]; omega
  | n + 1 => by
    have := csum_le (H := H) (m := m) n
    rw [csum_s]
    unfold one1
    split <;> omega
theorem csum_lt {H : Int → Int} {m : Nat} {p : Int} : ∀ n : Nat, 0 ≤ p → p < n → H p = -1 → csum H n m < n
  | 0, p0, p1, _ => by omega
  | n + 1, p0, p1, e => by
    rw [csum_s]
    by_cases ep : p = n
    · subst ep
      have := csum_le (H := H) (m := m) n
      unfold one1
      rw [if_neg (by omega)]
      omega
    · have := csum_lt (H := H) (m := m) n p0 (by omega) e
      unfold one1
      split <;> omega
theorem csum_ge {H : Int → Int} {n : Nat} : ∀ m : Nat, (∀ g : Int, 0 ≤ g → g < m → 0 < cnt H g n) → m ≤ csum H n m
  | 0, _ => Int.le_refl _
  | m + 1, h => by
    have := csum_ge (H := H) (n := n) m (fun g h0 h1 => h g h0 (by omega))
    have := h m (by omega) (by omega)
    unfold csum
    omega
/-- a hop is free while a rule has none -/
theorem free_hop {H : Int → Int} {n : Nat} {p : Int} (hn : n ≤ 60) (p0 : 0 ≤ p) (p1 : p < n) (e : H p = -1) : ∃ g : Int, 0 ≤ g ∧ g < 60 ∧ cnt H g n = 0 := by
  refine Classical.byContradiction fun hc => ?_
  have h1 := csum_ge (H := H) (n := n) 60 (fun g h0 h1 => by
    have h2 := cnt_nn H g n
    have h3 : ¬ cnt H g n = 0 := fun z => hc ⟨g, h0, h1, z⟩
    omega)
  have h2 := csum_lt (H := H) (m := 60) n p0 p1 e
  omega
def clrH (T : TB) (p : Int) : TB := (tN T, tV T, tL T, uf (tH T) p (-1), tY T, tZ T, tS T)
def insT (T : TB) (p v l : Int) : TB := (tN T + 1, insF (tV T) p v, insF (tL T) p l, insF (tH T) p (-1), tY T, tZ T, tS T)
def delT (T : TB) (p : Int) : TB := (tN T - 1, delF (tV T) p, delF (tL T) p, delF (tH T) p, tY T, tZ T, tS T)
def setH (T : TB) (p g c : Int) : TB := (tN T, tV T, tL T, uf (tH T) p g, uf (tY T) g c, tZ T, tS T)
theorem tU_nn (T : TB) (h : Int) : 0 ≤ tU T h := cnt_nn _ _ _
theorem tU_le {T : TB} (hw : tWF T) (h : Int) : tU T h ≤ 60 := by
  have h1 := cnt_le (tH T) h (tN T).toNat
  have h2 := hw.1
  unfold tU
  omega
theorem tU_clr {T : TB} {p h : Int} (p0 : 0 ≤ p) (p1 : p < tN T) (hh : 0 ≤ h) : tU (clrH T p) h = tU T h - one1 (tH T p = h) := by
  unfold tU
  show cnt (uf (tH T) p (-1)) h (tN T).toNat = _
  rw [cnt_uf p0 (by omega)]
  have e : one1 ((-1 : Int) = h) = 0 := if_neg (by omega)
  omega
theorem tU_ins {T : TB} {p v l h : Int} (p0 : 0 ≤ p) (p1 : p ≤ tN T) (hh : 0 ≤ h) : tU (insT T p v l) h = tU T h := by
  unfold tU
  show cnt (insF (tH T) p (-1)) h (tN T + 1).toNat = _
  rw [show (tN T + 1).toNat = (tN T).toNat + 1 by omega, cnt_ins p0 (by omega)]
  have e : one1 ((-1 : Int) = h) = 0 := if_neg (by omega)
  omega
theorem tU_del {T : TB} {p h : Int} (p0 : 0 ≤ p) (p1 : p < tN T) : tU (delT T p) h = tU T h - one1 (tH T p = h) := by
  unfold tU
  show cnt (delF (tH T) p) h (tN T - 1).toNat = _
  rw [cnt_del p0 (by omega), show (tN T - 1).toNat + 1 = (tN T).toNat by omega]
theorem tU_set {T : TB} {p g c h : Int} (p0 : 0 ≤ p) (p1 : p < tN T) (e : tH T p = -1) (hh : 0 ≤ h) : tU (setH T p g c) h = tU T h + one1 (g = h) := by
  unfold tU
  show cnt (uf (tH T) p g) h (tN T).toNat = _
  rw [cnt_uf p0 (by omega), e]
  have e : one1 ((-1 : Int) = h) = 0 := if_neg (by omega)
  omega
/-- the hop that a code gets -/
def isHop (T : TB) (c g : Int) : Prop := 0 ≤ g ∧ g < 60 ∧ ((0 < tU T g ∧ tY T g = c) ∨ ((∀ h : Int, 0 ≤ h → h < 60 → ¬ (0 < tU T h ∧ tY T h = c)) ∧ tU T g = 0 ∧ ∀ h : Int, 0 ≤ h → h < g → 0 < tU T h))
theorem isHop_u {T : TB} {c g k : Int} (hd : ∀ h g : Int, 0 ≤ h → h < 60 → 0 ≤ g → g < 60 → 0 < tU T h → 0 < tU T g → tY T h = tY T g → h = g) (h : isHop T c g) (h2 : isHop T c k) : g = k := by
  obtain ⟨g0, g1, hg⟩ := h
  obtain ⟨k0, k1, hk⟩ := h2
  rcases hg with hg | hg <;> rcases hk with hk | hk
  · exact hd g k g0 g1 k0 k1 hg.1 hk.1 (hg.2.trans hk.2.symm)
  · exact absurd hg (hk.1 g g0 g1)
  · exact absurd hk (hg.1 k k0 k1)
  · rcases (show g = k ∨ g < k ∨ k < g by omega) with e | e | e
    · exact e
    · have := hk.2.2 g g0 e; have := hg.2.1; omega
    · have := hg.2.2 k k0 e; have := hk.2.1; omega
/-- a rule is told -/
def isPut (T : TB) (v l c : Int) (T2 : TB) : Prop := (∃ p, isAt T v l p ∧ tK T (tH T p) = c ∧ T2 = T) ∨ (∃ p g, isAt T v l p ∧ ¬ tK T (tH T p) = c ∧ isHop (clrH T p) c g ∧ T2 = setH (clrH T p) p g c) ∨ ∃ p g, (∀ k, ¬ isAt T v l k) ∧ isPl T v l p ∧ tN T < 60 ∧ isHop (insT T p v l) c g ∧ T2 = setH (insT T p v l) p g c
theorem isAt_u {T : TB} (hw : tWF T) {v l p q : Int} (h : isAt T v l p) (g : isAt T v l q) : p = q := isPl_u (isAt_pl hw h) (isAt_pl hw g)
theorem used_clr {T : TB} {p h : Int} (p0 : 0 ≤ p) (p1 : p < tN T) (hh : 0 ≤ h) (hu : 0 < tU (clrH T p) h) : 0 < tU T h := by
  rw [tU_clr p0 p1 hh] at hu
  unfold one1 at hu
  split at hu <;> omega
theorem isPut_u {T A B : TB} (hw : tWF T) {v l c : Int} (ha : isPut T v l c A) (hb : isPut T v l c B) : A = B := by
  have hd := hw.2.2.2.2.1
  rcases ha with ⟨p, a1, a2, rfl⟩ | ⟨p, g, a1, a2, a3, rfl⟩ | ⟨p, g, a1, a2, a3, a4, rfl⟩ <;> rcases hb with ⟨q, b1, b2, rfl⟩ | ⟨q, k, b1, b2, b3, rfl⟩ | ⟨q, k, b1, b2, b3, b4, rfl⟩
  · rfl
  · have e := isAt_u hw a1 b1; subst e; exact absurd a2 b2
  · exact absurd a1 (b1 p)
  · have e := isAt_u hw a1 b1; subst e; exact absurd b2 a2
  · have e := isAt_u hw a1 b1
    subst e
    have e2 := isHop_u (fun h g h0 h1 g0 g1 u1 u2 e => hd h g h0 h1 g0 g1 (used_clr a1.1 a1.2.1 h0 u1) (used_clr a1.1 a1.2.1 g0 u2) e) a3 b3
    subst e2
    rfl
  · exact absurd a1 (b1 p)
  · exact absurd b1 (a1 q)
  · exact absurd b1 (a1 q)
  · have e := isPl_u a2 b2
    subst e
    have e2 := isHop_u (T := insT T p v l) (fun h g h0 h1 g0 g1 u1 u2 e => hd h g h0 h1 g0 g1 (by rw [tU_ins a2.1 a2.2.1 h0] at u1; exact u1) (by rw [tU_ins a2.1 a2.2.1 g0] at u2; exact u2) e) a4 b4
    subst e2
    rfl
/-- a table in which one rule has no hop yet -/
def tW1 (T : TB) (p : Int) : Prop := (0 ≤ tN T ∧ tN T ≤ 60) ∧ (0 ≤ p ∧ p < tN T ∧ tH T p = -1) ∧ (∀ k : Int, 0 ≤ k → k < tN T → (0 ≤ tV T k ∧ tV T k < 4294967296) ∧ (0 ≤ tL T k ∧ tL T k ≤ 32) ∧ tV T k % wd (tL T k) = 0 ∧ (¬ k = p → 0 ≤ tH T k ∧ tH T k < 60)) ∧ (∀ i j : Int, 0 ≤ i → i < j → j < tN T → tV T i < tV T j ∨ (tV T i = tV T j ∧ tL T i < tL T j)) ∧ (∀ h : Int, 0 ≤ h → h < 60 → 0 < tU T h → 0 ≤ tY T h ∧ tY T h ≤ 999) ∧ (∀ h g : Int, 0 ≤ h → h < 60 → 0 ≤ g → g < 60 → 0 < tU T h → 0 < tU T g → tY T h = tY T g → h = g) ∧ (1 ≤ tZ T ∧ tZ T ≤ 16) ∧ (∀ l : Int, 0 ≤ l → l < tZ T → 2 ≤ tS T l ∧ tS T l ≤ 6) ∧ tB (tS T) (tZ T).toNat = 32
theorem tW1_clr {T : TB} (hw : tWF T) {p : Int} (p0 : 0 ≤ p) (p1 : p < tN T) : tW1 (clrH T p) p := by
  obtain ⟨w1, w2, w3, w4, w5, w6, w7, w8⟩ := hw
  refine ⟨w1, ⟨p0, p1, uf_at rfl⟩, fun k k0 k1 => ?_, w3, fun h h0 h1 u => w4 h h0 h1 (used_clr p0 p1 h0 u), fun h g h0 h1 g0 g1 u1 u2 => w5 h g h0 h1 g0 g1 (used_clr p0 p1 h0 u1) (used_clr p0 p1 g0 u2), w6, w7, w8⟩
  obtain ⟨a1, a2, a3, a4⟩ := w2 k k0 k1
  refine ⟨a1, a2, a3, fun e => ?_⟩
  show 0 ≤ uf (tH T) p (-1) k ∧ uf (tH T) p (-1) k < 60
  rw [uf_ne e]
  exact a4
theorem tW1_ins {T : TB} (hw : tWF T) {p v l : Int} (hp : isPl T v l p) (hno : ∀ k, ¬ isAt T v l k) (hn : tN T < 60) (v0 : 0 ≤ v) (v1 : v < 4294967296) (l0 : 0 ≤ l) (l1 : l ≤ 32) (hv : v % wd l = 0) : tW1 (insT T p v l) p := by
  obtain ⟨w1, w2, w3, w4, w5, w6, w7, w8⟩ := hw
  obtain ⟨p0, p1, pa, pn⟩ := hp
  have hu : ∀ h : Int, 0 ≤ h → tU (insT T p v l) h = tU T h := fun h h0 => tU_ins p0 p1 h0
  have gt : ∀ j : Int, p ≤ j → j < tN T → v < tV T j ∨ (v = tV T j ∧ l < tL T j) := by
    intro j j0 j1
    have h1 : v < tV T p ∨ (v = tV T p ∧ l < tL T p) := by
      have h2 := pn (by omega)
      unfold tA at h2
      have h3 : ¬ (tV T p = v ∧ tL T p = l) := fun z => hno p ⟨p0, by omega, z.1, z.2⟩
      omega
    rcases (show p = j ∨ p < j by omega) with e | e
    · rw [← e]; exact h1
    · have := w3 p j p0 e j1
      omega
  refine ⟨⟨by show 0 ≤ tN T + 1; omega, by show tN T + 1 ≤ 60; omega⟩, ⟨p0, by show p < tN T + 1; omega, insF_at rfl⟩, fun k k0 k1 => ?_, fun i j i0 ij j1 => ?_, fun h h0 h1 u => w4 h h0 h1 (by rw [hu h h0] at u; exact u), fun h g h0 h1 g0 g1 u1 u2 => w5 h g h0 h1 g0 g1 (by rw [hu h h0] at u1; exact u1) (by rw [hu g g0] at u2; exact u2), w6, w7, w8⟩
  · have k1 : k < tN T + 1 := k1
    show (0 ≤ insF (tV T) p v k ∧ insF (tV T) p v k < 4294967296) ∧ (0 ≤ insF (tL T) p l k ∧ insF (tL T) p l k ≤ 32) ∧ insF (tV T) p v k % wd (insF (tL T) p l k) = 0 ∧ (¬ k = p → 0 ≤ insF (tH T) p (-1) k ∧ insF (tH T) p (-1) k < 60)
    rcases (show k < p ∨ k = p ∨ p < k by omega) with e | e | e
    · rw [insF_lt e, insF_lt e, insF_lt e]
      obtain ⟨a1, a2, a3, a4⟩ := w2 k k0 (by omega)
      exact ⟨a1, a2, a3, fun _ => a4⟩
    · rw [insF_at e, insF_at e]
      exact ⟨⟨v0, v1⟩, ⟨l0, l1⟩, hv, fun z => absurd e z⟩
    · rw [insF_gt e, insF_gt e, insF_gt e]
      obtain ⟨a1, a2, a3, a4⟩ := w2 (k - 1) (by omega) (by omega)
      exact ⟨a1, a2, a3, fun _ => a4⟩
  · have j1 : j < tN T + 1 := j1
    show insF (tV T) p v i < insF (tV T) p v j ∨ (insF (tV T) p v i = insF (tV T) p v j ∧ insF (tL T) p l i < insF (tL T) p l j)
    rcases (show i < p ∨ i = p ∨ p < i by omega) with e | e | e
    · rw [insF_lt e, insF_lt e]
      rcases (show j < p ∨ j = p ∨ p < j by omega) with f | f | f
      · rw [insF_lt f, insF_lt f]; exact w3 i j i0 ij (by omega)
      · rw [insF_at f, insF_at f]; exact pa i i0 e
      · rw [insF_gt f, insF_gt f]; exact w3 i (j - 1) i0 (by omega) (by omega)
    · rw [insF_at e, insF_at e, insF_gt (by omega), insF_gt (by omega)]
      exact gt (j - 1) (by omega) (by omega)
    · rw [insF_gt e, insF_gt e, insF_gt (by omega), insF_gt (by omega)]
      exact w3 (i - 1) (j - 1) (by omega) (by omega) (by omega)
theorem tW1_set {T : TB} {p g c : Int} (hw : tW1 T p) (hg : isHop T c g) (c0 : 0 ≤ c) (c1 : c ≤ 999) : tWF (setH T p g c) := by
  obtain ⟨w1, ⟨p0, p1, p2⟩, w2, w3, w4, w5, w6, w7, w8⟩ := hw
  obtain ⟨g0, g1, hg⟩ := hg
  have hu : ∀ h : Int, 0 ≤ h → tU (setH T p g c) h = tU T h + one1 (g = h) := fun h h0 => tU_set p0 p1 p2 h0
  have hu2 : ∀ h : Int, 0 ≤ h → ¬ h = g → tU (setH T p g c) h = tU T h := fun h h0 e => by
    rw [hu h h0]
    unfold one1
    rw [if_neg (fun z => e z.symm)]
    omega
  have key : ∀ h : Int, 0 ≤ h → h < 60 → 0 < tU T h → ¬ h = g → ¬ tY T h = c := by
    intro h h0 h1 u e z
    rcases hg with hg | hg
    · exact e (w5 h g h0 h1 g0 g1 u hg.1 (z.trans hg.2.symm))
    · exact hg.1 h h0 h1 ⟨u, z⟩
  refine ⟨w1, fun k k0 k1 => ?_, w3, fun h h0 h1 u => ?_, fun h k h0 h1 k0 k1 u1 u2 e => ?_, w6, w7, w8⟩
  · obtain ⟨a1, a2, a3, a4⟩ := w2 k k0 k1
    refine ⟨a1, a2, a3, ?_⟩
    show 0 ≤ uf (tH T) p g k ∧ uf (tH T) p g k < 60
    by_cases e : k = p
    · rw [uf_at e]; exact ⟨g0, g1⟩
    · rw [uf_ne e]; exact a4 e
  · show 0 ≤ uf (tY T) g c h ∧ uf (tY T) g c h ≤ 999
    by_cases e : h = g
    · rw [uf_at e]; exact ⟨c0, c1⟩
    · rw [uf_ne e]; rw [hu2 h h0 e] at u; exact w4 h h0 h1 u
  · have e : uf (tY T) g c h = uf (tY T) g c k := e
    by_cases eh : h = g <;> by_cases ek : k = g
    · omega
    · rw [uf_at eh, uf_ne ek] at e
      rw [hu2 k k0 ek] at u2
      exact absurd e.symm (key k k0 k1 u2 ek)
    · rw [uf_ne eh, uf_at ek] at e
      rw [hu2 h h0 eh] at u1
      exact absurd e (key h h0 h1 u1 eh)
    · rw [uf_ne eh, uf_ne ek] at e
      rw [hu2 h h0 eh] at u1
      rw [hu2 k k0 ek] at u2
      exact w5 h k h0 h1 k0 k1 u1 u2 e
theorem isPut_wf {T T2 : TB} (hw : tWF T) {v l c : Int} (h : isPut T v l c T2) (v0 : 0 ≤ v) (v1 : v < 4294967296) (l0 : 0 ≤ l) (l1 : l ≤ 32) (hv : v % wd l = 0) (c0 : 0 ≤ c) (c1 : c ≤ 999) : tWF T2 := by
  rcases h with ⟨p, -, -, rfl⟩ | ⟨p, g, a1, a2, a3, rfl⟩ | ⟨p, g, a1, a2, a3, a4, rfl⟩
  · exact hw
  · exact tW1_set (tW1_clr hw a1.1 a1.2.1) a3 c0 c1
  · exact tW1_set (tW1_ins hw a2 a1 a3 v0 v1 l0 l1 hv) a4 c0 c1
theorem tK_neg {T : TB} {h : Int} (e : h < 0) : tK T h = -1 := if_neg (by omega)
theorem tK_0 {T : TB} {h : Int} (e : tU T h = 0) : tK T h = -1 := if_neg (by omega)
theorem tK_out {T : TB} {h : Int} (e : 60 ≤ h) : tK T h = -1 := if_neg (by omega)
theorem tK_pos {T : TB} {h : Int} (h0 : 0 ≤ h) (h1 : h < 60) (u : 0 < tU T h) : tK T h = tY T h := if_pos ⟨h0, h1, u⟩
theorem tK_cg {T T2 : TB} {h : Int} (e : 0 ≤ h → (0 < tU T h ↔ 0 < tU T2 h)) (e2 : 0 ≤ h → tY T h = tY T2 h) : tK T h = tK T2 h := by
  by_cases h0 : 0 ≤ h
  · by_cases h1 : h < 60
    · by_cases u : 0 < tU T h
      · rw [tK_pos h0 h1 u, tK_pos h0 h1 ((e h0).mp u), e2 h0]
      · rw [tK_0 (by have := tU_nn T h; omega), tK_0 (by have := tU_nn T2 h; have := e h0; omega)]
    · rw [tK_out (by omega), tK_out (by omega)]
  · rw [tK_neg (by omega), tK_neg (by omega)]
theorem one1_p {p : Prop} [Decidable p] (h : p) : one1 p = 1 := if_pos h
theorem one1_n {p : Prop} [Decidable p] (h : ¬ p) : one1 p = 0 := if_neg h
theorem tK_clr {T : TB} {p h : Int} (p0 : 0 ≤ p) (p1 : p < tN T) : tK (clrH T p) h = if h = tH T p ∧ tU (clrH T p) (tH T p) = 0 then -1 else tK T h := by
  by_cases e : h = tH T p ∧ tU (clrH T p) (tH T p) = 0
  · rw [if_pos e]
    exact tK_0 (by rw [e.1]; exact e.2)
  · rw [if_neg e]
    refine tK_cg (fun h0 => ?_) (fun _ => rfl)
    have h1 := tU_clr (T := T) (h := h) p0 p1 h0
    have h2 := tU_nn (clrH T p) h
    by_cases eh : tH T p = h
    · rw [one1_p eh] at h1
      have h3 : ¬ tU (clrH T p) h = 0 := fun z => e ⟨eh.symm, by rw [eh]; exact z⟩
      omega
    · rw [one1_n eh] at h1
      omega
theorem tK_ins {T : TB} {p v l h : Int} (p0 : 0 ≤ p) (p1 : p ≤ tN T) : tK (insT T p v l) h = tK T h := tK_cg (fun h0 => by rw [tU_ins p0 p1 h0]) (fun _ => rfl)
theorem tK_set {T : TB} {p g c h : Int} (p0 : 0 ≤ p) (p1 : p < tN T) (e : tH T p = -1) (g0 : 0 ≤ g) (g1 : g < 60) : tK (setH T p g c) h = if h = g then c else tK T h := by
  by_cases eg : h = g
  · rw [if_pos eg]
    have h1 := tU_set (T := T) (g := g) (c := c) (h := h) p0 p1 e (by omega)
    have h2 := tU_nn T h
    rw [one1_p eg.symm] at h1
    rw [tK_pos (by omega) (by omega) (by omega)]
    exact uf_at eg
  · rw [if_neg eg]
    refine tK_cg (fun h0 => ?_) (fun _ => uf_ne eg)
    have h1 := tU_set (T := T) (g := g) (c := c) (h := h) p0 p1 e h0
    rw [one1_n (fun q => eg q.symm)] at h1
    omega
theorem tK_del {T : TB} {p h : Int} (p0 : 0 ≤ p) (p1 : p < tN T) : tK (delT T p) h = if h = tH T p ∧ tU (delT T p) (tH T p) = 0 then -1 else tK T h := by
  by_cases e : h = tH T p ∧ tU (delT T p) (tH T p) = 0
  · rw [if_pos e]
    exact tK_0 (by rw [e.1]; exact e.2)
  · rw [if_neg e]
    refine tK_cg (fun h0 => ?_) (fun _ => rfl)
    have h1 := tU_del (T := T) (h := h) p0 p1
    have h2 := tU_nn (delT T p) h
    by_cases eh : tH T p = h
    · rw [one1_p eh] at h1
      have h3 : ¬ tU (delT T p) h = 0 := fun z => e ⟨eh.symm, by rw [eh]; exact z⟩
      omega
    · rw [one1_n eh] at h1
      omega
theorem tWF_del {T : TB} (hw : tWF T) {p : Int} (p0 : 0 ≤ p) (p1 : p < tN T) : tWF (delT T p) := by
  obtain ⟨w1, w2, w3, w4, w5, w6, w7, w8⟩ := hw
  have hu : ∀ h : Int, 0 < tU (delT T p) h → 0 < tU T h := fun h u => by
    rw [tU_del p0 p1] at u
    unfold one1 at u
    split at u <;> omega
  refine ⟨⟨by show 0 ≤ tN T - 1; omega, by show tN T - 1 ≤ 60; omega⟩, fun k k0 k1 => ?_, fun i j i0 ij j1 => ?_, fun h h0 h1 u => w4 h h0 h1 (hu h u), fun h g h0 h1 g0 g1 u1 u2 => w5 h g h0 h1 g0 g1 (hu h u1) (hu g u2), w6, w7, w8⟩
  · have k1 : k < tN T - 1 := k1
    show (0 ≤ delF (tV T) p k ∧ delF (tV T) p k < 4294967296) ∧ (0 ≤ delF (tL T) p k ∧ delF (tL T) p k ≤ 32) ∧ delF (tV T) p k % wd (delF (tL T) p k) = 0 ∧ 0 ≤ delF (tH T) p k ∧ delF (tH T) p k < 60
    rcases (show k < p ∨ p ≤ k by omega) with e | e
    · rw [delF_lt e, delF_lt e, delF_lt e]; exact w2 k k0 (by omega)
    · rw [delF_ge e, delF_ge e, delF_ge e]; exact w2 (k + 1) (by omega) (by omega)
  · have j1 : j < tN T - 1 := j1
    show delF (tV T) p i < delF (tV T) p j ∨ (delF (tV T) p i = delF (tV T) p j ∧ delF (tL T) p i < delF (tL T) p j)
    rcases (show i < p ∨ p ≤ i by omega) with e | e <;> rcases (show j < p ∨ p ≤ j by omega) with f | f
    · rw [delF_lt e, delF_lt e, delF_lt f, delF_lt f]; exact w3 i j i0 ij (by omega)
    · rw [delF_lt e, delF_lt e, delF_ge f, delF_ge f]; exact w3 i (j + 1) i0 (by omega) (by omega)
    · omega
    · rw [delF_ge e, delF_ge e, delF_ge f, delF_ge f]; exact w3 (i + 1) (j + 1) (by omega) (by omega) (by omega)

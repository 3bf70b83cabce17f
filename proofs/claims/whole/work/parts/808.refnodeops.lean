/-! NODES BY NUMBER, in both; the reference asks its nodes. -/
def isNum (T : TB) (s : Int) (lf vl lv : Int → Int) : Prop := (lf 0 = 0 ∧ lf 1 = 1 ∧ lf (tZ T) = s) ∧ (vl 0 = 0 ∧ lv 0 = 0) ∧ ∀ l : Int, 1 ≤ l → l < tZ T → seqS vl (lf l) (lf (l + 1)) (NDT T (tB (tS T) l.toNat)) ∧ ∀ n : Int, lf l ≤ n → n < lf (l + 1) → lv n = l
theorem NT_num {M : xM} {p : Int} {T : TB} (h : NT M p T) : isNum T (M p 0) (M (p + 12)) (M (p + 1)) (M (p + 2)) :=
  ⟨⟨h.2.1.1, h.2.1.2.1, h.2.1.2.2.1⟩, ⟨h.2.2.1.1, h.2.2.1.2.1⟩, fun l l0 l1 => ⟨h.2.2.2.1 l l0 l1, fun n n0 n1 => ((h.2.2.2.2 l (by omega) l1).2 n n0 n1).1⟩⟩
def RL (M : xM) (r : Int) (T : TB) : Prop := RW M r 0 T ∧ NS M r T (M (r + 5) 0) (M (r + 6))
theorem RW_0 {M : xM} {r : Int} {T : TB} (h : RW M r 0 T) : isRows T (M (r + 5) 0) (M (r + 6)) (M (r + 7)) := by
  have h1 := h.1
  have e6 : (fun i => M (r + 6) (124 * 0 + i)) = M (r + 6) := funext fun i => by rw [show (124 : Int) * 0 + i = i by omega]
  have e7 : (fun i => M (r + 7) (124 * 0 + i)) = M (r + 7) := funext fun i => by rw [show (124 : Int) * 0 + i = i by omega]
  rw [e6, e7] at h1
  exact h1
theorem RL_num {M : xM} {r : Int} {T : TB} (hw : tWF T) (h : RL M r T) : isNum T (M r 15) (M (r + 15)) (M (r + 14)) (M (r + 13)) := by
  have hr := RW_0 h.1
  obtain ⟨h1, h2, h3, h4, h5, h6, h7⟩ := h.2
  refine ⟨⟨h1, h2, h3⟩, ⟨h4, h5⟩, fun l l0 l1 => ⟨?_, (h6 l l0 l1).2⟩⟩
  have hb := tB_hi hw (l := l) (by omega) (by omega)
  exact seqS_S (h6 l l0 l1).1 (fun x => ND_T hr (by omega) (by omega))
theorem num_le {T : TB} {s : Int} {lf vl lv : Int → Int} (h : isNum T s lf vl lv) {i : Int} (i0 : 0 ≤ i) : ∀ k : Nat, i + k ≤ tZ T → lf i ≤ lf (i + k)
  | 0, _ => by rw [show i + ((0 : Nat) : Int) = i by omega]; exact Int.le_refl _
  | k + 1, hk => by
    have ih := num_le h i0 k (by omega)
    have h2 : lf (i + k) ≤ lf (i + k + 1) := by
      by_cases e : i + k = 0
      · rw [e, h.1.1, show (0 : Int) + 1 = 1 from rfl, h.1.2.1]; decide
      · exact (h.2.2 (i + k) (by omega) (by omega)).1.1
    rw [show i + ((k + 1 : Nat) : Int) = i + k + 1 by omega]
    omega
theorem num_mono {T : TB} {s : Int} {lf vl lv : Int → Int} (h : isNum T s lf vl lv) {i j : Int} (i0 : 0 ≤ i) (ij : i ≤ j) (j1 : j ≤ tZ T) : lf i ≤ lf j := by
  have := num_le h i0 (j - i).toNat (by omega)
  rw [show i + ((j - i).toNat : Int) = j by omega] at this
  exact this
theorem num_lv {T : TB} {s : Int} {lf vl lv : Int → Int} (h : isNum T s lf vl lv) {n : Int} (n0 : 0 ≤ n) : ∀ k : Nat, (k : Int) ≤ tZ T → n < lf k → ∃ l : Int, 0 ≤ l ∧ l < k ∧ lf l ≤ n ∧ n < lf (l + 1)
  | 0, _, hn => by
    have e : lf ((0 : Nat) : Int) = 0 := h.1.1
    omega
  | k + 1, hk, hn => by
    by_cases e : n < lf k
    · obtain ⟨l, l0, l1, l2, l3⟩ := num_lv h n0 k (by omega) e
      exact ⟨l, l0, by omega, l2, l3⟩
    · exact ⟨k, by omega, by omega, by omega, hn⟩
/-- a node of a level -/
def nAt (T : TB) (lf vl lv : Int → Int) (n l : Int) : Prop := (0 ≤ l ∧ l < tZ T) ∧ (lf l ≤ n ∧ n < lf (l + 1)) ∧ lv n = l ∧ ndOk T l (vl n) ∧ vl n % wd (tB (tS T) l.toNat) = 0 ∧ (1 ≤ l → NDT T (tB (tS T) l.toNat) (vl n))
theorem wd_4g {b x : Int} (b0 : 0 ≤ b) (x1 : x < 4294967296) (h : x % wd b = 0) : x + wd b ≤ 4294967296 := by
  have hd := wd_dvd (m := 0) (n := b) b0
  rw [wd_0] at hd
  have hp := wd_pos b
  obtain ⟨c, hc⟩ := hd
  obtain ⟨e9, he9⟩ := Int.dvd_of_emod_eq_zero h
  rw [he9] at x1 ⊢
  rw [hc] at x1 ⊢
  have h2 : e9 < c := Int.lt_of_mul_lt_mul_left x1 (Int.le_of_lt hp)
  have h3 : wd b * (e9 + 1) ≤ wd b * c := Int.mul_le_mul_of_nonneg_left (by omega) (Int.le_of_lt hp)
  rw [Int.mul_add, Int.mul_one] at h3
  exact h3
theorem num_nd {T : TB} {s : Int} {lf vl lv : Int → Int} (hw : tWF T) (h : isNum T s lf vl lv) {n l : Int} (l0 : 0 ≤ l) (l1 : l < tZ T) (n0 : lf l ≤ n) (n1 : n < lf (l + 1)) : nAt T lf vl lv n l := by
  by_cases e : l = 0
  · subst e
    have en : n = 0 := by
      have e0 := h.1.1
      have e1 : lf (0 + 1) = 1 := h.1.2.1
      omega
    subst en
    refine ⟨⟨l0, l1⟩, ⟨n0, n1⟩, h.2.1.2, ?_, ?_, fun z => absurd z (by decide)⟩
    · rw [h.2.1.1]
      exact ⟨⟨l0, l1⟩, by decide, by show 0 + wd 0 ≤ _; rw [wd_0]; decide⟩
    · rw [h.2.1.1]; exact Int.zero_emod _
  · obtain ⟨hs, hl⟩ := h.2.2 l (by omega) l1
    have hx := hs.2.2.1 n n0 n1
    have hb := tB_hi hw l0 (by omega)
    exact ⟨⟨l0, l1⟩, ⟨n0, n1⟩, hl n n0 n1, ⟨⟨l0, l1⟩, hx.1.1, wd_4g (by omega) hx.1.2 hx.2.1⟩, hx.2.1, fun _ => hx⟩
theorem num_at {T : TB} {s : Int} {lf vl lv : Int → Int} (hw : tWF T) (h : isNum T s lf vl lv) {n : Int} (n0 : 0 ≤ n) (n1 : n < s) : ∃ l : Int, nAt T lf vl lv n l := by
  have hz := hw.2.2.2.2.2.1
  obtain ⟨l, l0, l1, l2, l3⟩ := num_lv h n0 (tZ T).toNat (by omega) (by rw [show ((tZ T).toNat : Int) = tZ T by omega, h.1.2.2]; exact n1)
  exact ⟨l, num_nd hw h l0 (by omega) l2 l3⟩
theorem num_bd {T : TB} {s : Int} {lf vl lv : Int → Int} (h : isNum T s lf vl lv) {n l : Int} (a : nAt T lf vl lv n l) : 0 ≤ n ∧ n < s := by
  have h1 := num_mono h (i := 0) (j := l) (by decide) a.1.1 (by have := a.1.2; omega)
  have h2 := num_mono h (i := l + 1) (j := tZ T) (by have := a.1; omega) (by have := a.1; omega) (Int.le_refl _)
  have h3 := h.1
  have h4 := a.2.1
  omega
/-- nodes of one level of one value are one -/
theorem num_inj {T : TB} {s : Int} {lf vl lv : Int → Int} (h : isNum T s lf vl lv) {n k l : Int} (l0 : 0 ≤ l) (l1 : l < tZ T) (n0 : lf l ≤ n) (n1 : n < lf (l + 1)) (k0 : lf l ≤ k) (k1 : k < lf (l + 1)) (e : vl n = vl k) : n = k := by
  by_cases el : l = 0
  · subst el
    have e0 := h.1.1
    have e1 : lf (0 + 1) = 1 := h.1.2.1
    omega
  · obtain ⟨hs, -⟩ := h.2.2 l (by omega) l1
    rcases (show n = k ∨ n < k ∨ k < n by omega) with e2 | e2 | e2
    · exact e2
    · have := hs.2.1 n k n0 e2 k1; omega
    · have := hs.2.1 k n k0 e2 n1; omega
/-- where a beginning has not one way there is a node -/
theorem num_ex {T : TB} {s : Int} {lf vl lv : Int → Int} (h : isNum T s lf vl lv) {l x : Int} (l0 : 1 ≤ l) (l1 : l < tZ T) (hx : NDT T (tB (tS T) l.toNat) x) : ∃ n : Int, lf l ≤ n ∧ n < lf (l + 1) ∧ vl n = x := (h.2.2 l l0 l1).1.2.2.2 x hx
theorem num_lf {T : TB} {s s2 : Int} {lf vl lv lf2 vl2 lv2 : Int → Int} (h : isNum T s lf vl lv) (h2 : isNum T s2 lf2 vl2 lv2) : ∀ k : Nat, (k : Int) ≤ tZ T → lf k = lf2 k ∧ ∀ n : Int, 0 ≤ n → n < lf k → vl n = vl2 n ∧ lv n = lv2 n
  | 0, _ => by
    have e1 : lf ((0 : Nat) : Int) = 0 := h.1.1
    have e2 : lf2 ((0 : Nat) : Int) = 0 := h2.1.1
    exact ⟨by omega, fun n n0 n1 => by omega⟩
  | k + 1, hk => by
    obtain ⟨a1, a2⟩ := num_lf h h2 k (by omega)
    have ek : ((k + 1 : Nat) : Int) = (k : Int) + 1 := by omega
    rw [ek]
    by_cases e : (k : Int) = 0
    · rw [e, show (0 : Int) + 1 = 1 from rfl, h.1.2.1, h2.1.2.1]
      refine ⟨rfl, fun n n0 n1 => ?_⟩
      rw [show n = 0 by omega, h.2.1.1, h.2.1.2, h2.2.1.1, h2.2.1.2]
      exact ⟨rfl, rfl⟩
    · obtain ⟨s1, s3⟩ := h.2.2 k (by omega) (by omega)
      obtain ⟨s2', s4⟩ := h2.2.2 k (by omega) (by omega)
      rw [← a1] at s2' s4
      obtain ⟨u1, u2⟩ := seqS_u s1 s2'
      refine ⟨u1, fun n n0 n1 => ?_⟩
      by_cases en : n < lf k
      · exact a2 n n0 en
      · rw [s3 n (by omega) n1, s4 n (by omega) (by omega)]
        exact ⟨u2 n (by omega) n1, rfl⟩
theorem num_u {T : TB} {s s2 : Int} {lf vl lv lf2 vl2 lv2 : Int → Int} (hw : tWF T) (h : isNum T s lf vl lv) (h2 : isNum T s2 lf2 vl2 lv2) : s = s2 ∧ (∀ l : Int, 0 ≤ l → l ≤ tZ T → lf l = lf2 l) ∧ ∀ n : Int, 0 ≤ n → n < s → vl n = vl2 n ∧ lv n = lv2 n := by
  have hz := hw.2.2.2.2.2.1
  have hl : ∀ l : Int, 0 ≤ l → l ≤ tZ T → lf l = lf2 l := fun l l0 l1 => by
    have := (num_lf h h2 l.toNat (by omega)).1
    rw [show (l.toNat : Int) = l by omega] at this
    exact this
  have hZ := hl (tZ T) (by omega) (Int.le_refl _)
  rw [h.1.2.2, h2.1.2.2] at hZ
  refine ⟨hZ, hl, fun n n0 n1 => ?_⟩
  have := (num_lf h h2 (tZ T).toNat (by omega)).2 n n0
  rw [show ((tZ T).toNat : Int) = tZ T by omega, h.1.2.2] at this
  exact this n1
theorem RL_b {M : xM} {r : Int} {T : TB} (hw : tWF T) (h : RL M r T) : 1 ≤ M r 15 ∧ M r 15 ≤ 1801 := by
  have hz := hw.2.2.2.2.2.1
  have h7 := h.2.2.2.2.2.2.2 (tZ T) (by omega) (Int.le_refl _)
  rw [h.2.2.2.1] at h7
  omega
section RefNodes
variable {d : Nat} {M : xM} {Q : xQ} {T : TB} {r : Int}
theorem blk_in {a b : Int} (a0 : 0 ≤ a) (a1 : a < 4294967296) (b0 : 0 ≤ b) : 0 ≤ a - a % wd b ∧ a - a % wd b ≤ a ∧ a < a - a % wd b + wd b ∧ a - a % wd b + wd b ≤ 4294967296 ∧ (a - a % wd b) % wd b = 0 := by
  have hp := wd_pos b
  have h1 := Int.emod_nonneg a (Int.ne_of_gt hp)
  have h2 := Int.emod_lt_of_pos a hp
  have h3 : a % wd b ≤ a := by
    have := Int.emod_add_mul_ediv a (wd b)
    have h4 : 0 ≤ wd b * (a / wd b) := Int.mul_nonneg (Int.le_of_lt hp) (Int.ediv_nonneg a0 (Int.le_of_lt hp))
    omega
  exact ⟨by omega, by omega, by omega, wd_4g b0 (by omega) mod_sub, mod_sub⟩
theorem qMo_nodeAt {l a : Int} (hw : tWF T) (hR : RL M r T) (l0 : 0 ≤ l) (l1 : l < tZ T) (a0 : 0 ≤ a) (a1 : a < 4294967296) (h1 : ∀ n : Int, M (r + 15) l ≤ n → n < M (r + 15) (l + 1) → M (r + 14) n = a - a % wd (tB (tS T) l.toNat) → Q (xI n) M) (h0 : (∀ n : Int, M (r + 15) l ≤ n → n < M (r + 15) (l + 1) → ¬ M (r + 14) n = a - a % wd (tB (tS T) l.toNat)) → Q (xI (-1)) M) : Ru (d + 1) kMo_nodeAt 0 [xO 9 r, xI l, xL a, xU, xU, xU, xU, xU, xU] [] M Q := by
  have hz := hw.2.2.2.2.2.1
  have hb := tB_hi hw (l := l) l0 (by omega)
  have hn := RL_num hw hR
  have hlb := RL_b hw hR
  have m0 := num_mono hn (i := 0) (j := l) (by decide) l0 (by omega)
  have m1 := num_mono hn (i := l) (j := l + 1) l0 (by omega) (by omega)
  have m2 := num_mono hn (i := l + 1) (j := tZ T) (by omega) (by omega) (Int.le_refl _)
  have h3 := hn.1
  have hbl := blk_in (b := tB (tS T) l.toNat) a0 a1 (by omega)
  refine vMo_nodeAt_0 (qMo_lengthAt hw hR.1 (Or.inl rfl) l0 (by omega) (vMo_nodeAt_6 (qMo_sizeOf (by omega) (by omega) (vMo_nodeAt_9 ⟨Int.ne_of_gt (wd_pos _), by omega, ?_⟩))))
  rw [wd_lrem a0 (by omega) (by omega), z64_id (by omega) (by omega)]
  refine loop_up (M (r + 15) (l + 1)) (P := fun n => M (r + 15) l ≤ n → (∀ k : Int, M (r + 15) l ≤ k → k < n → ¬ M (r + 14) k = a - a % wd (tB (tS T) l.toNat)) → Ru (d + 1) kMo_nodeAt 27 [xO 9 r, xI l, xL a, xU, xL (wd (tB (tS T) l.toNat)), xU, xL (a - a % wd (tB (tS T) l.toNat)), xU, xI n] [] M Q) (fun n hn2 ih n0 hno => ?_) (M (r + 15) l) m1 (Int.le_refl _) (fun k k0 k1 => by omega)
  refine vMo_nodeAt_27 ?_
  rw [z32_id (x := l + 1) (by omega) (by omega)]
  refine ⟨by omega, fun q => h0 (fun k k0 k1 => hno k k0 (by omega)), fun q => ⟨by omega, fun q2 => ?_, fun q2 => h1 n n0 (by omega) (Classical.not_not.mp q2)⟩⟩
  rw [z32_id (by omega) (by omega)]
  refine ih (n + 1) (by omega) (by omega) (by omega) (fun k k0 k1 => ?_)
  by_cases e : k = n
  · rw [e]; exact q2
  · exact hno k k0 (by omega)
theorem qMo_hasChild {l a : Int} (hw : tWF T) (hR : RL M r T) (l0 : 0 ≤ l) (l1 : l < tZ T) (a0 : 0 ≤ a) (a1 : a < 4294967296) (h1 : l + 1 < tZ T → ¬ lfp T (a - a % wd (tB (tS T) (l + 1).toNat)) (wd (tB (tS T) (l + 1).toNat)) → Q (xI 1) M) (h0 : (l + 1 < tZ T → lfp T (a - a % wd (tB (tS T) (l + 1).toNat)) (wd (tB (tS T) (l + 1).toNat))) → Q (xI 0) M) : Ru (d + 2) kMo_hasChild 0 [xO 9 r, xI l, xL a, xU, xU, xU] [] M Q := by
  have hz := hw.2.2.2.2.2.1
  refine vMo_hasChild_0 ⟨by decide, ?_⟩
  rw [z32_id (x := l + 1) (by omega) (by omega), hR.1.2.2.1]
  refine ⟨fun q => ?_, fun q => h0 (fun z => absurd z q)⟩
  have hb := tB_hi hw (l := l + 1) (by omega) (by omega)
  have hbl := blk_in (b := tB (tS T) (l + 1).toNat) a0 a1 (by omega)
  have hp := wd_pos (tB (tS T) (l + 1).toNat)
  refine qMo_lengthAt hw hR.1 (Or.inl rfl) (by omega) (by omega) (vMo_hasChild_22 (qMo_sizeOf (by omega) (by omega) (vMo_hasChild_25 ⟨Int.ne_of_gt hp, ?_⟩)))
  rw [wd_lrem a0 (by omega) (by omega), z64_id (by omega) (by omega)]
  exact qMo_isOne hR.1 (Or.inl rfl) hbl.1 hp hbl.2.2.2.1 (fun z => vMo_hasChild_40 ⟨fun _ => h0 (fun _ => z), fun z2 => absurd (by decide) z2⟩) (fun z => vMo_hasChild_40 ⟨fun z2 => absurd rfl z2, fun _ => h1 q z⟩)
theorem qMo_through {a : Int} (hw : tWF T) (hR : RL M r T) (a0 : 0 ≤ a) (a1 : a < 4294967296) (h : ∀ g : Int, isThr T a g → Q (xI g) M) : Ru (d + 3) kMo_through 0 [xO 9 r, xL a, xU, xU] [] M Q := by
  have hz := hw.2.2.2.2.2.1
  refine vMo_through_0 (loop_up (tZ T - 1) (P := fun l => 0 ≤ l → (∀ i : Int, 1 ≤ i → i ≤ l → ¬ lfp T (a - a % wd (tB (tS T) i.toNat)) (wd (tB (tS T) i.toNat))) → Ru (d + 3) kMo_through 2 [xO 9 r, xL a, xU, xI l] [] M Q) (fun l hl ih l0 hno => ?_) 0 (by omega) (by decide) (fun i i0 i1 => by omega))
  refine vMo_through_2 (qMo_hasChild hw hR l0 (by omega) a0 a1 (fun z1 z2 => vMo_through_8 ⟨fun z => absurd z (by decide), fun _ => ?_⟩) (fun z1 => vMo_through_8 ⟨fun _ => ?_, fun z => absurd rfl z⟩))
  · rw [z32_id (by omega) (by omega)]
    refine ih (l + 1) (by omega) (by omega) (by omega) (fun i i0 i1 => ?_)
    by_cases e : i = l + 1
    · rw [e]; exact z2
    · exact hno i i0 (by omega)
  · rw [z32_id (by omega) (by omega)]
    exact h _ ⟨by omega, fun i i0 i1 => hno i i0 (by omega), z1⟩
theorem slot_q {T : TB} (hw : tWF T) {l a : Int} (l0 : 0 ≤ l) (l1 : l < tZ T) (a0 : 0 ≤ a) : (a - (a - a % wd (tB (tS T) l.toNat))) / wd (tB (tS T) (l + 1).toNat) = a / wd (tB (tS T) (l + 1).toNat) % 2 ^ (tS T l).toNat := by
  have hs := hw.2.2.2.2.2.2.1 l l0 l1
  have hpp := p26 hs.1 hs.2
  have hb := tB_hi hw (l := l + 1) (by omega) (by omega)
  have hp := wd_pos (tB (tS T) (l + 1).toNat)
  have e1 : wd (tB (tS T) l.toNat) = 2 ^ (tS T l).toNat * wd (tB (tS T) (l + 1).toNat) := by
    rw [tB_s _ l0] at hb ⊢
    exact wd_mul (by omega) (by omega)
  rw [show a - (a - a % wd (tB (tS T) l.toNat)) = a % wd (tB (tS T) l.toNat) by omega, e1, emod_mul' hp (by omega), Int.mul_comm (wd _) _, Int.add_mul_ediv_right _ _ (Int.ne_of_gt hp)]
  have h1 := Int.emod_nonneg a (Int.ne_of_gt hp)
  have h2 := Int.emod_lt_of_pos a hp
  rw [Int.ediv_eq_zero_of_lt h1 h2]
  omega
theorem run_bit {T : TB} {v z : Int} {P q : Nat} (hP : P ≤ 64) (hq : q < P) : land (lshr (nR T v z P) q) 1 = if nS T v z q = true then 1 else 0 := by
  have hm := nR_m T v z P hP
  have hin := nR_in T v z P
  have hb := shr_bit (s := q) hin (by omega)
  have et : tb (nR T v z P) q = nS T v z q := by
    unfold tb
    rw [hm.1, bm_bit, decide_eq_true hq, Bool.true_and]
  rw [et] at hb
  have e1 : land (lshr (nR T v z P) q) 1 = lshr (nR T v z P) q % 2 ^ 1 := land_mask _ (k := 1) (by decide)
  cases e : nS T v z q with
  | false =>
    rw [if_neg (by decide)]
    exact hb.mpr e
  | true =>
    rw [if_pos rfl]
    have hn : ¬ land (lshr (nR T v z P) q) 1 = 0 := fun z9 => by
      have := hb.mp z9
      rw [e] at this
      exact absurd this (by decide)
    rw [e1] at hn ⊢
    have h2 : (2 : Int) ^ 1 = 2 := rfl
    rw [h2] at hn ⊢
    omega
theorem qMo_storedPlace {a : Int} (hw : tWF T) (hR : RL M r T) (a0 : 0 ≤ a) (a1 : a < 4294967296) (h : ∀ (N : xM) (g : Int), isThr T a g → (∀ b j : Int, ¬ (b = r ∧ (j = 20 ∨ j = 21 ∨ j = 22)) → ¬ b = r + 16 → N b j = M b j) → Q (xI (nN T (a - a % wd (tB (tS T) (g - 1).toNat)) (wd (tB (tS T) g.toNat)) (a / wd (tB (tS T) g.toNat) % 2 ^ (tS T (g - 1)).toNat + 1).toNat - 1)) N) : Ru (d + 4) kMo_storedPlace 0 [xO 9 r, xL a, xU, xU, xU, xU, xU, xU] [] M Q := by
  have hz := hw.2.2.2.2.2.1
  refine vMo_storedPlace_0 (qMo_through hw hR a0 a1 (fun g hg => vMo_storedPlace_5 ?_))
  have g0 := hg.1
  have hb := tB_hi hw (l := g - 1) (by omega) (by omega)
  have hb1 := tB_hi hw (l := g) (by omega) (by omega)
  have hbl := blk_in (b := tB (tS T) (g - 1).toNat) a0 a1 (by omega)
  have hs := hw.2.2.2.2.2.2.1 (g - 1) (by omega) (by omega)
  have hpp := p26 hs.1 hs.2
  have hp := wd_pos (tB (tS T) g.toNat)
  have hpl := wd_le (n := tB (tS T) g.toNat) (by omega)
  rw [z32_id (x := g - 1) (by omega) (by omega)]
  refine qMo_lengthAt hw hR.1 (Or.inl rfl) (by omega) (by omega) (vMo_storedPlace_16 (qMo_sizeOf (by omega) (by omega) (vMo_storedPlace_19 ⟨Int.ne_of_gt (wd_pos _), ?_⟩)))
  rw [wd_lrem a0 (by omega) (by omega), z64_id (by omega) (by omega)]
  have hv : ndOk T (g - 1) (a - a % wd (tB (tS T) (g - 1).toNat)) := ⟨by omega, hbl.1, hbl.2.2.2.1⟩
  refine qMo_reads hw hR.1 (Or.inl rfl) hv (fun N n20 n21 n22 n16 hf => vMo_storedPlace_31 ?_)
  have hq := slot_q hw (l := g - 1) (by omega) (by omega) a0
  rw [show g - 1 + 1 = g by omega] at hq n21
  have hR2 : RW N r 0 T := RW_fr hR.1 (fun b j b0 b1 => hf b j (by omega) (by omega))
  have q0 := Int.emod_nonneg (a / wd (tB (tS T) g.toNat)) (show (2 : Int) ^ (tS T (g - 1)).toNat ≠ 0 by omega)
  have q1 := Int.emod_lt_of_pos (a / wd (tB (tS T) g.toNat)) (show (0 : Int) < 2 ^ (tS T (g - 1)).toNat by omega)
  have h64 : (2 : Nat) ^ (tS T (g - 1)).toNat ≤ 64 := by rw [p2i] at hpp; omega
  have ha := hbl.2.1
  generalize hvd : a - a % wd (tB (tS T) (g - 1).toNat) = v at *
  generalize hqd : a / wd (tB (tS T) g.toNat) % 2 ^ (tS T (g - 1)).toNat = qq at *
  refine loop_up (qq + 1) (P := fun s => 0 ≤ s → Ru (d + 4) kMo_storedPlace 37 [xO 9 r, xL a, xU, xI (g - 1), xL v, xU, xI (nN T v (wd (tB (tS T) g.toNat)) s.toNat - 1), xI s] [] N Q) (fun s hs2 ih s0 => ?_) 0 (by omega) (by decide)
  refine vMo_storedPlace_37 (qMo_slotSize hw hR2 (Or.inl rfl) (by omega) (by omega) (vMo_storedPlace_50 ⟨Int.ne_of_gt (wd_pos _), ?_⟩))
  rw [show g - 1 + 1 = g by omega, z64_id (x := a - v) (by omega) (by omega), ldiv_eq (by omega) (by omega) hp (by omega), hq]
  refine ⟨fun q => ?_, fun q => ?_⟩
  · rw [show s = qq + 1 by omega]
    rw [← hvd, ← hqd]
    exact h N g hg hf
  · obtain ⟨k, rfl⟩ := nat_of s0
    have hk : k < 2 ^ (tS T (g - 1)).toNat := by
      rw [p2i] at q1
      omega
    have ih' := ih (k + 1) (by omega) (by omega) (by omega)
    have nb := nN_b T v (wd (tB (tS T) g.toNat)) k
    rw [show ((k : Int) + 1).toNat = k + 1 by omega] at ih'
    rw [n21, run_bit h64 hk, show ((k : Int)).toNat = k by omega, z32_id (x := (k : Int) + 1) (by omega) (by omega)]
    cases e : nS T v (wd (tB (tS T) g.toNat)) k with
    | true =>
      rw [nN_y e] at ih'
      rw [if_pos rfl, z32_id (x := 1) (by decide) (by decide), z32_id (by omega) (by omega), show nN T v (wd (tB (tS T) g.toNat)) k - 1 + 1 = nN T v (wd (tB (tS T) g.toNat)) k + 1 - 1 by omega]
      exact ih'
    | false =>
      rw [nN_n e] at ih'
      rw [if_neg (by decide), z32_id (x := 0) (by decide) (by decide), z32_id (by omega) (by omega), Int.add_zero]
      exact ih'
end RefNodes

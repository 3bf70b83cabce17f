/-! NODES ARE GONE THROUGH: the class. -/
theorem emod_mul' {a z P : Int} (hz : 0 < z) (hP : 0 < P) : a % (P * z) = a % z + z * (a / z % P) := by
  have h1 := Int.emod_add_mul_ediv a z
  have h2 := Int.emod_add_mul_ediv (a / z) P
  have h3 := Int.emod_nonneg a (Int.ne_of_gt hz)
  have h4 := Int.emod_lt_of_pos a hz
  have h5 := Int.emod_nonneg (a / z) (Int.ne_of_gt hP)
  have h6 := Int.emod_lt_of_pos (a / z) hP
  have e : a = (a % z + z * (a / z % P)) + (P * z) * (a / z / P) := by
    have h7 : z * (a / z) = z * (a / z % P) + z * (P * (a / z / P)) := by rw [← Int.mul_add, h2]
    rw [show P * z * (a / z / P) = z * (P * (a / z / P)) by rw [Int.mul_comm P z, Int.mul_assoc]]
    omega
  have hb : a % z + z * (a / z % P) < P * z := by
    have h8 : z * (a / z % P + 1) ≤ z * P := Int.mul_le_mul_of_nonneg_left (by omega) (Int.le_of_lt hz)
    rw [Int.mul_add, Int.mul_one] at h8
    rw [Int.mul_comm P z]
    omega
  have hn : 0 ≤ z * (a / z % P) := Int.mul_nonneg (Int.le_of_lt hz) h5
  have e2 : a % (P * z) = ((a % z + z * (a / z % P)) + (P * z) * (a / z / P)) % (P * z) := by rw [← e]
  rw [e2, Int.add_mul_emod_self_left, Int.emod_eq_of_lt (by omega) hb]
theorem blkz {a z P : Int} (hz : 0 < z) (hP : 0 < P) : a - a % (P * z) + a / z % P * z = a - a % z := by
  rw [emod_mul' hz hP, Int.mul_comm (a / z % P) z]
  omega
/-- how many nodes are gone through to an address -/
def isThr (T : TB) (a g : Int) : Prop := (1 ≤ g ∧ g ≤ tZ T) ∧ (∀ i : Int, 1 ≤ i → i < g → ¬ lfp T (a - a % wd (tB (tS T) i.toNat)) (wd (tB (tS T) i.toNat))) ∧ (g < tZ T → lfp T (a - a % wd (tB (tS T) g.toNat)) (wd (tB (tS T) g.toNat)))
theorem isThr_u {T : TB} {a g k : Int} (h : isThr T a g) (h2 : isThr T a k) : g = k := by
  rcases (show g = k ∨ g < k ∨ k < g by omega) with e | e | e
  · exact e
  · exact absurd (h.2.2 (by have := h2.1; omega)) (h2.2.1 g h.1.1 e)
  · exact absurd (h2.2.2 (by have := h.1; omega)) (h.2.1 k h2.1.1 e)
theorem NT_fr {M N : xM} {p : Int} {T : TB} (h : NT M p T) (e : ∀ b j : Int, p ≤ b → b ≤ p + 14 → ¬ b = p + 7 → ¬ (b = p ∧ j = 17) → N b j = M b j) : NT N p T := by
  have e1 : N (p + 1) = M (p + 1) := funext fun j => e _ _ (by omega) (by omega) (by omega) (by omega)
  have e2 : N (p + 2) = M (p + 2) := funext fun j => e _ _ (by omega) (by omega) (by omega) (by omega)
  have e3 : N (p + 3) = M (p + 3) := funext fun j => e _ _ (by omega) (by omega) (by omega) (by omega)
  have e4 : N (p + 4) = M (p + 4) := funext fun j => e _ _ (by omega) (by omega) (by omega) (by omega)
  have e5 : N (p + 5) = M (p + 5) := funext fun j => e _ _ (by omega) (by omega) (by omega) (by omega)
  have e6 : N (p + 6) = M (p + 6) := funext fun j => e _ _ (by omega) (by omega) (by omega) (by omega)
  have e8 : N (p + 8) = M (p + 8) := funext fun j => e _ _ (by omega) (by omega) (by omega) (by omega)
  have e9 : N (p + 9) = M (p + 9) := funext fun j => e _ _ (by omega) (by omega) (by omega) (by omega)
  have e10 : N (p + 10) = M (p + 10) := funext fun j => e _ _ (by omega) (by omega) (by omega) (by omega)
  have e12 : N (p + 12) = M (p + 12) := funext fun j => e _ _ (by omega) (by omega) (by omega) (by omega)
  have e13 : N (p + 13) = M (p + 13) := funext fun j => e _ _ (by omega) (by omega) (by omega) (by omega)
  have e14 : N (p + 14) = M (p + 14) := funext fun j => e _ _ (by omega) (by omega) (by omega) (by omega)
  have c0 : N p 0 = M p 0 := e _ _ (by omega) (by omega) (by omega) (by omega)
  have c15 : N p 15 = M p 15 := e _ _ (by omega) (by omega) (by omega) (by omega)
  have c16 : N p 16 = M p 16 := e _ _ (by omega) (by omega) (by omega) (by omega)
  unfold NT FD FN at h ⊢
  rw [e1, e2, e3, e4, e5, e6, e8, e9, e10, e12, e13, e14, c0, c15, c16]
  exact h
section GoTo
variable {d : Nat} {M : xM} {Q : xQ} {T : TB} {p : Int}
theorem qNodes_slotOf {a l : Int} (hw : tWF T) (hN : NT M p T) (a0 : 0 ≤ a) (a1 : a < 4294967296) (l0 : 0 ≤ l) (l1 : l < tZ T) (h : Q (xI (a / wd (tB (tS T) (l + 1).toNat) % 2 ^ (tS T l).toNat)) M) : Ru d kNodes_slotOf 0 [xO 3 p, xL a, xU, xI l] [] M Q := by
  have hz := hw.2.2.2.2.2.1
  have hs := hw.2.2.2.2.2.2.1 l l0 l1
  have hpp := p26 hs.1 hs.2
  have hb := tB_hi hw (l := l + 1) (by omega) (by omega)
  refine vNodes_slotOf_0 ⟨fun q => by omega, fun q => ⟨fun q2 => ?_, fun q2 => absurd (by rw [hN.1.1]; exact l1) q2⟩⟩
  rw [z32_id (x := l + 1) (by omega) (by omega), hN.1.2.2 (l + 1) (by omega) (by omega), hN.1.2.1 l l0 l1, ishl_p (by omega) (by omega), z32_id (x := 2 ^ (tS T l).toNat - 1) (by omega) (by omega), iand_mask _ (by omega), lshr_wd (by omega) (by omega) ⟨by omega, by omega⟩]
  refine ⟨by omega, by omega, ?_⟩
  have e : z32 (a / wd (tB (tS T) (l + 1).toNat)) % 2 ^ (tS T l).toNat = a / wd (tB (tS T) (l + 1).toNat) % 2 ^ (tS T l).toNat := by
    have hd : (2 : Int) ^ (tS T l).toNat ∣ 4294967296 := pow_dvd (n := 32) (by omega)
    rw [← Int.emod_emod_of_dvd (z32 (a / wd (tB (tS T) (l + 1).toNat))) hd, show z32 (a / wd (tB (tS T) (l + 1).toNat)) % 4294967296 = a / wd (tB (tS T) (l + 1).toNat) % 4294967296 from Int.bmod_emod .., Int.emod_emod_of_dvd _ hd]
  rw [e]
  exact h
theorem qNodes_goTo {a : Int} (hw : tWF T) (hN : NT M p T) (a0 : 0 ≤ a) (a1 : a < 4294967296) (h : ∀ (N : xM) (g : Int), isThr T a g → N p 17 = g → (∀ i : Int, 0 ≤ i → i < g → M (p + 12) i ≤ N (p + 7) i ∧ N (p + 7) i < M (p + 12) (i + 1) ∧ M (p + 1) (N (p + 7) i) = a - a % wd (tB (tS T) i.toNat)) → (∀ b j : Int, ¬ b = p + 7 → ¬ (b = p ∧ j = 17) → N b j = M b j) → Q (xI g) N) : Ru (d + 3) kNodes_goTo 0 [xO 3 p, xL a, xU, xU] [] M Q := by
  have hz := hw.2.2.2.2.2.1
  have h6 := tWF_Z hw
  refine vNodes_goTo_0 (loop_up (tZ T) (P := fun i => ∀ (N : xM) (n : Int), 0 ≤ i → N p 17 = i → (∀ k : Int, 1 ≤ k → k ≤ i → k < tZ T → ¬ lfp T (a - a % wd (tB (tS T) k.toNat)) (wd (tB (tS T) k.toNat))) → (∀ k : Int, 0 ≤ k → k < i → M (p + 12) k ≤ N (p + 7) k ∧ N (p + 7) k < M (p + 12) (k + 1) ∧ M (p + 1) (N (p + 7) k) = a - a % wd (tB (tS T) k.toNat)) → (i < tZ T → M (p + 12) i ≤ n ∧ n < M (p + 12) (i + 1) ∧ M (p + 1) n = a - a % wd (tB (tS T) i.toNat)) → (∀ b j : Int, ¬ b = p + 7 → ¬ (b = p ∧ j = 17) → N b j = M b j) → Ru (d + 3) kNodes_goTo 7 [xO 3 p, xL a, xU, xI n] [] N Q) (fun i hi ih N n i0 e17 hno htr hn hf => ?_) 0 (by omega) _ _ (by decide) up_same (fun k k0 k1 => by omega) (fun k k0 k1 => by omega) (fun _ => ?_) (fun b j hb hb2 => up_un (by omega)))
  · have hN2 : NT N p T := NT_fr hN (fun b j b0 b1 b2 b3 => hf b j b2 b3)
    have c15 : N p 15 = tZ T := by rw [hf _ _ (by omega) (by omega)]; exact hN.1.1
    have e12 : N (p + 12) = M (p + 12) := funext fun j => hf _ _ (by omega) (by omega)
    have e1 : N (p + 1) = M (p + 1) := funext fun j => hf _ _ (by omega) (by omega)
    refine vNodes_goTo_7 ?_
    rw [c15, e17]
    refine ⟨fun q => ?_, fun q => ?_⟩
    · have ei : i = tZ T := by omega
      exact h N i ⟨by omega, fun k k0 k1 => hno k k0 (by omega) (by omega), fun z => by omega⟩ e17 htr hf
    · obtain ⟨n0, n1, n2⟩ := hn (by omega)
      have hA : NA N p T n i := NT_nd hw hN2 i0 (by omega) (by rw [e12]; exact n0) (by rw [e12]; exact n1)
      have hb := NA_b hN2 hA
      refine qNodes_has hN2.2.1.2.2.2.1 (fun _ _ => vNodes_goTo_23 ⟨fun z => absurd z (by decide), fun _ => ?_⟩) (fun z => absurd ⟨hb.1, hb.2.1⟩ z)
      rw [e17, up_ne (by omega), e17]
      refine ⟨by omega, ?_⟩
      have hf3 : ∀ b j : Int, ¬ b = p + 7 → ¬ (b = p ∧ j = 17) → up N (p + 7) i n b j = M b j := fun b j hb hb2 => by
        rw [up_un (by omega)]; exact hf b j hb hb2
      have hN3 : NT (up N (p + 7) i n) p T := NT_fr hN (fun b j b0 b1 b2 b3 => hf3 b j b2 b3)
      have hA3 : NA (up N (p + 7) i n) p T n i := NT_nd hw hN3 i0 (by omega) (by rw [up_ne (by omega), e12]; exact n0) (by rw [up_ne (by omega), e12]; exact n1)
      refine qNodes_slotOf hw hN3 a0 a1 i0 (by omega) (vNodes_goTo_47 ?_)
      have hs := hw.2.2.2.2.2.2.1 i i0 (by omega)
      have hpp := p26 hs.1 hs.2
      have hwz := (nd_sl hw hA3.2.2.2.1).1
      have hzp := wd_pos (tB (tS T) (i + 1).toNat)
      have eblk : up N (p + 7) i n (p + 1) n + a / wd (tB (tS T) (i + 1).toNat) % 2 ^ (tS T i).toNat * wd (tB (tS T) (i + 1).toNat) = a - a % wd (tB (tS T) (i + 1).toNat) := by
        rw [up_ne (by omega), e1, n2, hwz]
        exact blkz hzp (by omega)
      have t7 : ∀ k : Int, 0 ≤ k → k < i + 1 → M (p + 12) k ≤ up N (p + 7) i n (p + 7) k ∧ up N (p + 7) i n (p + 7) k < M (p + 12) (k + 1) ∧ M (p + 1) (up N (p + 7) i n (p + 7) k) = a - a % wd (tB (tS T) k.toNat) := fun k k0 k1 => by
        by_cases e : k = i
        · rw [e, up_same]; exact ⟨n0, n1, n2⟩
        · rw [up_off e]; exact htr k k0 (by omega)
      have t17 : ∀ x : Int, up (up N (p + 7) i n) p 17 x p 17 = x := fun x => up_same
      have tt7 : ∀ x : Int, ∀ k : Int, 0 ≤ k → k < i + 1 → M (p + 12) k ≤ up (up N (p + 7) i n) p 17 x (p + 7) k ∧ up (up N (p + 7) i n) p 17 x (p + 7) k < M (p + 12) (k + 1) ∧ M (p + 1) (up (up N (p + 7) i n) p 17 x (p + 7) k) = a - a % wd (tB (tS T) k.toNat) := fun x k k0 k1 => by
        rw [up_ne (by omega)]; exact t7 k k0 k1
      have hf4 : ∀ x : Int, ∀ b j : Int, ¬ b = p + 7 → ¬ (b = p ∧ j = 17) → up (up N (p + 7) i n) p 17 x b j = M b j := fun x b j hb hb2 => by
        rw [up_un (by omega)]; exact hf3 b j hb hb2
      refine qNodes_childAt hw hN3 hA3 (Int.emod_nonneg _ (by omega)) (Int.emod_lt_of_pos _ (by omega)) (fun hl => vNodes_goTo_50 ?_) (fun c hl hl1 hAc ec _ _ => vNodes_goTo_50 ?_)
      · rw [eblk] at hl
        rw [up_ne (by omega), e17, z32_id (by omega) (by omega)]
        refine vNodes_goTo_7 ?_
        rw [t17, up_un (by omega), up_ne (by omega), c15]
        have hthr : isThr T a (i + 1) := ⟨by omega, fun k k0 k1 => hno k k0 (by omega) (by omega), fun _ => hl⟩
        refine ⟨fun z => h _ _ hthr (t17 _) (tt7 _) (hf4 _), fun z => ?_⟩
        have h901 : up (up N (p + 7) i n) p 17 (i + 1) p 0 ≤ 901 := by rw [hf4 _ _ _ (by omega) (by omega)]; exact hN.2.1.2.2.2.1
        refine qNodes_has h901 (fun z2 => absurd z2 (by decide)) (fun _ => vNodes_goTo_23 ⟨fun _ => ?_, fun z => absurd rfl z⟩)
        rw [t17]
        exact h _ _ hthr (t17 _) (tt7 _) (hf4 _)
      · rw [eblk] at hl ec
        have c1 := hAc.2.1
        rw [up_ne (by omega), up_ne (by omega), e12] at c1
        rw [up_ne (by omega), e1] at ec
        rw [up_ne (by omega), e17, z32_id (by omega) (by omega)]
        refine ih (i + 1) (by omega) (by omega) _ c (by omega) (t17 _) (fun k k0 k1 k2 => ?_) (tt7 _) (fun _ => ⟨c1.1, c1.2, ec⟩) (hf4 _)
        by_cases e : k = i + 1
        · rw [e]; exact hl
        · exact hno k k0 (by omega) k2
  · have e1 : M (p + 12) 1 = 1 := hN.2.1.2.1
    refine ⟨by rw [hN.2.1.1]; decide, by rw [show (0 : Int) + 1 = 1 from rfl, e1]; decide, ?_⟩
    rw [hN.2.2.1.1]
    show 0 = a - a % wd 0
    rw [wd_0]; omega
theorem qNodes_placeOf {a g : Int} (hw : tWF T) (hN : NT M p T) (a0 : 0 ≤ a) (a1 : a < 4294967296) (hg : 1 ≤ g ∧ g ≤ tZ T) (e17 : M p 17 = g) (ht : M (p + 12) (g - 1) ≤ M (p + 7) (g - 1) ∧ M (p + 7) (g - 1) < M (p + 12) (g - 1 + 1) ∧ M (p + 1) (M (p + 7) (g - 1)) = a - a % wd (tB (tS T) (g - 1).toNat)) (h : Q (xI (nN T (a - a % wd (tB (tS T) (g - 1).toNat)) (wd (tB (tS T) g.toNat)) (a / wd (tB (tS T) g.toNat) % 2 ^ (tS T (g - 1)).toNat + 1).toNat - 1)) M) : Ru (d + 2) kNodes_placeOf 0 [xO 3 p, xL a, xU] [] M Q := by
  have hz := hw.2.2.2.2.2.1
  have hA : NA M p T (M (p + 7) (g - 1)) (g - 1) := NT_nd hw hN (by omega) (by omega) ht.1 ht.2.1
  have hb := NA_b hN hA
  have hs := hw.2.2.2.2.2.2.1 (g - 1) (by omega) (by omega)
  have hpp := p26 hs.1 hs.2
  refine vNodes_placeOf_0 ?_
  rw [e17]
  refine ⟨fun q => by omega, fun q => ⟨fun q => by omega, fun q => ?_⟩⟩
  rw [z32_id (x := g - 1) (by omega) (by omega)]
  refine ⟨by omega, qNodes_has hN.2.1.2.2.2.1 (fun _ _ => vNodes_placeOf_31 ⟨fun _ => ?_, fun z => absurd (by decide) z⟩) (fun z => absurd ⟨hb.1, hb.2.1⟩ z)⟩
  rw [e17, z32_id (x := g - 1) (by omega) (by omega)]
  refine ⟨by omega, qNodes_slotOf hw hN a0 a1 (by omega) (by omega) (vNodes_placeOf_59 ?_)⟩
  refine qNodes_placeAt hw hN hA (Int.emod_nonneg _ (by omega)) (Int.emod_lt_of_pos _ (by omega)) (vNodes_placeOf_62 ?_)
  rw [ht.2.2, show g - 1 + 1 = g by omega]
  exact h
theorem qNodes_startOfLevel {l : Int} (hw : tWF T) (hN : NT M p T) (l0 : 0 ≤ l) (l1 : l ≤ tZ T) (h : Q (xI (M (p + 12) l)) M) : Ru d kNodes_startOfLevel 0 [xO 3 p, xI l] [] M Q := by
  have hz := hw.2.2.2.2.2.1
  refine vNodes_startOfLevel_0 ⟨fun q => by omega, fun q => ?_⟩
  rw [hN.1.1]
  refine ⟨fun q2 => ?_, fun q2 => ⟨by omega, h⟩⟩
  rw [show l = tZ T by omega, hN.2.1.2.2.1] at h
  exact h
theorem qNodes_behindLevel {l : Int} (hw : tWF T) (hN : NT M p T) (l0 : 0 ≤ l) (l1 : l < tZ T) (h : Q (xI (M (p + 12) (l + 1))) M) : Ru d kNodes_behindLevel 0 [xO 3 p, xI l] [] M Q := by
  have hz := hw.2.2.2.2.2.1
  refine vNodes_behindLevel_0 ⟨fun q => by omega, fun q => ?_⟩
  rw [hN.1.1, z32_id (x := l + 1) (by omega) (by omega)]
  refine ⟨fun q2 => ?_, fun q2 => ⟨by omega, h⟩⟩
  rw [show l + 1 = tZ T by omega, hN.2.1.2.2.1] at h
  exact h
theorem qNodes_outLevel {l : Int} (hw : tWF T) (hN : NT M p T) (l0 : tZ T ≤ l) (l1 : l < 100) (h : Q (xI (M p 0)) M) : Ru d kNodes_startOfLevel 0 [xO 3 p, xI l] [] M Q ∧ Ru d kNodes_behindLevel 0 [xO 3 p, xI l] [] M Q := by
  have hz := hw.2.2.2.2.2.1
  refine ⟨vNodes_startOfLevel_0 ⟨fun q => by omega, fun q => ⟨fun _ => h, fun z => absurd (by rw [hN.1.1]; exact l0) z⟩⟩, vNodes_behindLevel_0 ⟨fun q => by omega, fun q => ?_⟩⟩
  rw [hN.1.1, z32_id (x := l + 1) (by omega) (by omega)]
  exact ⟨fun _ => h, fun z => by omega⟩
theorem qNodes_deepest (hw : tWF T) (hN : NT M p T) (h : Q (xI (M (p + 2) (M p 0 - 1) + 1)) M) : Ru (d + 1) kNodes_deepest 0 [xO 3 p] [] M Q := by
  have hz := hw.2.2.2.2.2.1
  have h6 := tWF_Z hw
  have h9 := hN.2.1
  have hle := NT_le hN (i := 1) (j := tZ T) (by decide) (by omega) (Int.le_refl _)
  obtain ⟨l, ha⟩ := NT_at hw hN (n := M p 0 - 1) (by omega) (by omega)
  have hl := ha.1
  have e2 := ha.2.2.1
  refine vNodes_deepest_0 ?_
  rw [z32_id (x := M p 0 - 1) (by omega) (by omega)]
  refine qNodes_has h9.2.2.2.1 (fun _ _ => vNodes_deepest_10 ⟨fun z => absurd z (by decide), fun _ => ?_⟩) (fun z => by omega)
  rw [z32_id (x := M p 0 - 1) (by omega) (by omega), z32_id (by omega) (by omega)]
  exact ⟨by omega, h⟩
/-- steps of all addresses in the first levels -/
def stp (T : TB) (lf : Int → Int) : Nat → Int
  | 0 => 0
  | l + 1 => stp T lf l + (lf (l + 1) - lf l) * wd (tB (tS T) l)
theorem stp_s {T : TB} {lf : Int → Int} {l : Int} (l0 : 0 ≤ l) : stp T lf (l + 1).toNat = stp T lf l.toNat + (lf (l + 1) - lf l) * wd (tB (tS T) l.toNat) := by
  rw [show (l + 1).toNat = l.toNat + 1 by omega]
  show stp T lf l.toNat + (lf ((l.toNat : Int) + 1) - lf (l.toNat : Int)) * wd (tB (tS T) l.toNat) = _
  rw [show (l.toNat : Int) = l by omega]
theorem lvl_b {c w : Int} (c0 : 0 ≤ c) (c1 : c ≤ 2000) (w0 : 0 < w) (w1 : w ≤ 4294967296) : 0 ≤ c * w ∧ c * w ≤ 8589934592000 := by
  refine ⟨Int.mul_nonneg c0 (Int.le_of_lt w0), ?_⟩
  have h1 : c * w ≤ c * 4294967296 := Int.mul_le_mul_of_nonneg_left w1 c0
  omega
theorem qNodes_allSteps (hw : tWF T) (hN : NT M p T) (h : Q (xL (stp T (M (p + 12)) (tZ T).toNat)) M) : Ru (d + 1) kNodes_allSteps 0 [xO 3 p, xU, xU, xU] [] M Q := by
  have hz := hw.2.2.2.2.2.1
  refine vNodes_allSteps_0 (loop_up (tZ T) (P := fun l => 0 ≤ l → 0 ≤ stp T (M (p + 12)) l.toNat → stp T (M (p + 12)) l.toNat ≤ 8589934592000 * l → Ru (d + 1) kNodes_allSteps 4 [xO 3 p, xL (stp T (M (p + 12)) l.toNat), xU, xI l] [] M Q) (fun l hl ih l0 s0 s1 => ?_) 0 (by omega) (by decide) (Int.le_refl _) (Int.le_refl _))
  refine vNodes_allSteps_4 ?_
  rw [hN.1.1]
  refine ⟨fun q => ?_, fun q => ?_⟩
  · rw [show l = tZ T by omega]; exact h
  · refine qNodes_behindLevel hw hN l0 (by omega) (vNodes_allSteps_18 (qNodes_startOfLevel hw hN l0 hl (vNodes_allSteps_23 ⟨by omega, ?_⟩)))
    have hb := tB_hi hw (l := l) l0 hl
    have h1 := (hN.2.2.2.2 l l0 (by omega)).1
    have h2 := NT_le hN (i := 0) (j := l) (by decide) l0 hl
    have h3 := NT_le hN (i := l + 1) (j := tZ T) (by omega) (by omega) (Int.le_refl _)
    have h4 := hN.2.1
    rw [hN.1.2.2 l l0 hl]
    refine qRS_widthOf (by omega) (by omega) (vNodes_allSteps_34 ?_)
    have hwp := wd_pos (tB (tS T) l.toNat)
    have hwl := wd_le (n := tB (tS T) l.toNat) (by omega)
    have hm := lvl_b (c := M (p + 12) (l + 1) - M (p + 12) l) (by omega) (by omega) hwp hwl
    have ih' := ih (l + 1) (by omega) (by omega) (by omega)
    rw [stp_s l0] at ih'
    rw [z32_id (x := M (p + 12) (l + 1) - M (p + 12) l) (by omega) (by omega), z64_id (x := (M (p + 12) (l + 1) - M (p + 12) l) * wd (tB (tS T) l.toNat)) (by omega) (by omega), z64_id (by omega) (by omega), z32_id (by omega) (by omega)]
    exact ih' (by omega) (by omega)
end GoTo

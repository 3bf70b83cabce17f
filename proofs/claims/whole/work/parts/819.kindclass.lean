/-! KINDS IN THE CLASS: contracts. -/
section KindClass
variable {d : Nat} {M : xM} {Q : xQ} {T : TB} {p k : Int}
theorem NA_kid (hw : tWF T) (hN : NT M p T) {n l i : Int} (hn : NA M p T n l) (i0 : 0 ≤ i) (i1 : i < nK T (M (p + 1) n) (wd (tB (tS T) (l + 1).toNat)) (2 ^ (tS T l).toNat)) : (M (p + 12) (l + 1) ≤ M (p + 6) n + i ∧ M (p + 6) n + i < M (p + 12) (l + 2)) ∧ l + 1 < tZ T ∧ 0 ≤ M (p + 6) n + i ∧ M (p + 6) n + i < M p 0 := by
  obtain ⟨q, q0, q1, q2⟩ := nK_surj (T := T) (v := M (p + 1) n) (z := wd (tB (tS T) (l + 1).toNat)) (2 ^ (tS T l).toNat) i i0 i1
  obtain ⟨c1, c2⟩ := NA_chd hw hN hn q0 q1
  rw [q2] at c1
  have h1 := NT_le hN (i := 0) (j := l + 1) (by decide) (by have := hn.1; omega) (by omega)
  have h2 := NT_le hN (i := l + 2) (j := tZ T) (by have := hn.1; omega) (by omega) (Int.le_refl _)
  have h3 := hN.2.1
  have h4 := c1.1
  exact ⟨h4, c2, by omega, by omega⟩
theorem qKinds_kindOfChild {n l i : Int} (hw : tWF T) (hN : NT M p T) (hn : NA M p T n l) (i0 : 0 ≤ i) (i1 : i < nK T (M (p + 1) n) (wd (tB (tS T) (l + 1).toNat)) (2 ^ (tS T l).toNat)) (h : Q (xI (M (k + 1) (M (p + 6) n + i))) M) : Ru (d + 1) kKinds_kindOfChild 0 [xO 2 k, xO 3 p, xI n, xI i, xU] [] M Q := by
  have hb := NA_b hN hn
  obtain ⟨a1, a2, a3, a4⟩ := NA_kid hw hN hn i0 i1
  have h9 := hN.2.1.2.2.2.1
  refine vKinds_kindOfChild_0 ⟨by omega, ?_⟩
  rw [z32_id (by omega) (by omega)]
  exact qNodes_has h9 (fun _ _ => vKinds_kindOfChild_16 ⟨fun z => absurd z (by decide), fun _ => ⟨by omega, h⟩⟩) (fun z => absurd ⟨a3, a4⟩ z)
theorem qNodes_storedAtM {n l i : Int} (hN : NT M p T) (ha : NA M p T n l) (i0 : 0 ≤ i) (i1 : i < nN T (M (p + 1) n) (wd (tB (tS T) (l + 1).toNat)) (2 ^ (tS T l).toNat)) (h : Q (xI (M (p + 9) (M (p + 8) n + i))) M) : Ru (d + 1) kNodes_storedAt 0 [xO 3 p, xI n, xI i] [] M Q := by
  refine qNodes_storedAt hN ha (fun z => absurd ⟨i0, i1⟩ z) (fun q q0 q1 q2 => ?_)
  obtain ⟨⟨f3, f4, f6, f8, f8', f9, f1⟩, -⟩ := ha.2.2.2.2.2
  have e := (f9 q q0 q1).1
  rw [q2] at e
  rw [e] at h
  exact h
theorem kid_cnt (hw : tWF T) {n l : Int} (ha : NA M p T n l) : ((pcn (ub (M (p + 3) n)) 64 : Nat) : Int) = nK T (M (p + 1) n) (wd (tB (tS T) (l + 1).toNat)) (2 ^ (tS T l).toNat) := by
  have h64 := P64 hw ha.1.1 ha.1.2
  obtain ⟨⟨f3, -⟩, -⟩ := ha.2.2.2.2.2
  obtain ⟨m1, m2⟩ := nC_m T (M (p + 1) n) (wd (tB (tS T) (l + 1).toNat)) (2 ^ (tS T l).toNat) h64
  rw [f3, m1, pcn_64 h64, m2]
theorem qKinds_rowOf {n l : Int} (hw : tWF T) (hN : NT M p T) (ha : NA M p T n l) (h : Q (xI (hR M p (M (k + 1)) T l n)) M) : Ru (d + 2) kKinds_rowOf 0 [xO 2 k, xO 3 p, xI n, xU, xU, xU, xU, xU] [] M Q := by
  have hb := NA_b hN ha
  have h64 := P64 hw ha.1.1 ha.1.2
  have nb := nN_b T (M (p + 1) n) (wd (tB (tS T) (l + 1).toNat)) (2 ^ (tS T l).toNat)
  have kb := nK_b T (M (p + 1) n) (wd (tB (tS T) (l + 1).toNat)) (2 ^ (tS T l).toNat)
  have hkc := kid_cnt hw ha
  refine vKinds_rowOf_0 ⟨by omega, by omega, qNodes_storedBy hN ha (vKinds_rowOf_23 ?_)⟩
  unfold hR at h
  generalize hNN : nN T (M (p + 1) n) (wd (tB (tS T) (l + 1).toNat)) (2 ^ (tS T l).toNat) = nn at *
  refine loop_up nn (P := fun i => 0 ≤ i → Ru (d + 2) kKinds_rowOf 28 [xO 2 k, xO 3 p, xI n, xL (hA (fun i => M (p + 9) (M (p + 8) n + i)) (z64 (M (p + 3) n + z64 (31 * M (p + 4) n))) i.toNat), xU, xI nn, xI i, xU] [] M Q) (fun i hi ih i0 => ?_) 0 nb.1 (by decide)
  refine vKinds_rowOf_28 ⟨fun y => ⟨by omega, qJ_bitCount (vKinds_rowOf_65 ?_)⟩, fun y => ?_⟩
  · rw [hkc]
    have ei : i = nn := by omega
    subst ei
    generalize hKK : nK T (M (p + 1) n) (wd (tB (tS T) (l + 1).toNat)) (2 ^ (tS T l).toNat) = kk at *
    refine loop_up kk (P := fun j => 0 ≤ j → Ru (d + 2) kKinds_rowOf 70 [xO 2 k, xO 3 p, xI n, xL (hA (fun j => M (k + 1) (M (p + 6) n + j)) (hA (fun i => M (p + 9) (M (p + 8) n + i)) (z64 (M (p + 3) n + z64 (31 * M (p + 4) n))) i.toNat) j.toNat), xU, xI i, xI kk, xI j] [] M Q) (fun j hj ihj j0 => ?_) 0 kb.1 (by decide)
    refine vKinds_rowOf_70 ⟨fun y2 => ?_, fun y2 => ?_⟩
    · rw [show j = kk by omega]
      exact h
    · refine qKinds_kindOfChild hw hN ha j0 (by omega) (vKinds_rowOf_90 ?_)
      have ih' := ihj (j + 1) (by omega) (by omega) (by omega)
      rw [hA_s j0] at ih'
      rw [z32_id (x := j + 1) (by omega) (by omega)]
      exact ih'
  · refine qNodes_storedAtM hN ha i0 (by omega) (vKinds_rowOf_47 ?_)
    have ih' := ih (i + 1) (by omega) (by omega) (by omega)
    rw [hA_s i0] at ih'
    rw [z32_id (x := i + 1) (by omega) (by omega)]
    exact ih'
theorem qKinds_leadToLike {m n l : Int} (hw : tWF T) (hN : NT M p T) (hm : NA M p T m l) (hn : NA M p T n l) (hk : nK T (M (p + 1) m) (wd (tB (tS T) (l + 1).toNat)) (2 ^ (tS T l).toNat) = nK T (M (p + 1) n) (wd (tB (tS T) (l + 1).toNat)) (2 ^ (tS T l).toNat)) (h1 : (∀ i : Int, 0 ≤ i → i < nK T (M (p + 1) n) (wd (tB (tS T) (l + 1).toNat)) (2 ^ (tS T l).toNat) → M (k + 1) (M (p + 6) m + i) = M (k + 1) (M (p + 6) n + i)) → Q (xI 1) M) (h0 : ¬ (∀ i : Int, 0 ≤ i → i < nK T (M (p + 1) n) (wd (tB (tS T) (l + 1).toNat)) (2 ^ (tS T l).toNat) → M (k + 1) (M (p + 6) m + i) = M (k + 1) (M (p + 6) n + i)) → Q (xI 0) M) : Ru (d + 2) kKinds_leadToLike 0 [xO 2 k, xO 3 p, xI m, xI n, xU, xU] [] M Q := by
  have hb := NA_b hN hn
  have h64 := P64 hw hn.1.1 hn.1.2
  have kb := nK_b T (M (p + 1) n) (wd (tB (tS T) (l + 1).toNat)) (2 ^ (tS T l).toNat)
  refine vKinds_leadToLike_0 ⟨by omega, qJ_bitCount (vKinds_leadToLike_9 ?_)⟩
  rw [kid_cnt hw hn]
  refine loop_up (nK T (M (p + 1) n) (wd (tB (tS T) (l + 1).toNat)) (2 ^ (tS T l).toNat)) (P := fun i => 0 ≤ i → (∀ j : Int, 0 ≤ j → j < i → M (k + 1) (M (p + 6) m + j) = M (k + 1) (M (p + 6) n + j)) → Ru (d + 2) kKinds_leadToLike 14 [xO 2 k, xO 3 p, xI m, xI n, xI (nK T (M (p + 1) n) (wd (tB (tS T) (l + 1).toNat)) (2 ^ (tS T l).toNat)), xI i] [] M Q) (fun i hi ih i0 hok => ?_) 0 kb.1 (by decide) (fun j j0 j1 => by omega)
  refine vKinds_leadToLike_14 ⟨fun y => h1 (fun j j0 j1 => hok j j0 (by omega)), fun y => ?_⟩
  refine qKinds_kindOfChild hw hN hm i0 (by omega) (vKinds_leadToLike_29 (qKinds_kindOfChild hw hN hn i0 (by omega) (vKinds_leadToLike_37 ?_)))
  refine ⟨fun y2 => ?_, fun y2 => h0 (fun z => y2 (z i i0 (by omega)))⟩
  rw [z32_id (by omega) (by omega)]
  refine ih (i + 1) (by omega) (by omega) (by omega) (fun j j0 j1 => ?_)
  by_cases e : j = i
  · rw [e]; exact y2
  · exact hok j j0 (by omega)
theorem qKinds_kindOf {n l : Int} (hw : tWF T) (hN : NT M p T) (hap : k + 3 < p ∨ p + 14 < k) (ha : NA M p T n l) (hI : KI M p (M (k + 1)) (M (k + 2)) (M (k + 3)) T l n) (h : ∀ (N : xM) (x : Int), (0 ≤ x ∧ x ≤ n) → KI M p (uf (M (k + 1)) n x) (N (k + 2)) (N (k + 3)) T l (n + 1) → (∀ b j : Int, ¬ b = k + 2 → ¬ b = k + 3 → N b j = M b j) → Q (xI x) N) : Ru (d + 3) kKinds_kindOf 0 [xO 2 k, xO 3 p, xI n, xU, xU, xU] [] M Q := by
  have hb := NA_b hN ha
  have hl := ha.1
  have hlb := NT_le hN (i := 0) (j := l) (by decide) hl.1 (by omega)
  rw [hN.2.1.1] at hlb
  have hrb := hV_b (hA (fun i => M (k + 1) (M (p + 6) n + i)) (hA (fun i => M (p + 9) (M (p + 8) n + i)) (z64 (M (p + 3) n + z64 (31 * M (p + 4) n))) (nN T (M (p + 1) n) (wd (tB (tS T) (l + 1).toNat)) (2 ^ (tS T l).toNat)).toNat) (nK T (M (p + 1) n) (wd (tB (tS T) (l + 1).toNat)) (2 ^ (tS T l).toNat)).toNat)
  have hrb2 : 0 ≤ hR M p (M (k + 1)) T l n ∧ hR M p (M (k + 1)) T l n < 64 := hrb
  refine vKinds_kindOf_0 (qKinds_rowOf hw hN ha (vKinds_kindOf_6 ⟨hrb2, ?_⟩))
  have walk : ∀ m : Int, -1 ≤ m → (m < n ∧ (0 ≤ m → M (p + 12) l ≤ m ∧ M (k + 1) m = m ∧ hR M p (M (k + 1)) T l m = hR M p (M (k + 1)) T l n) ∧ ∀ o : Int, m < o → M (p + 12) l ≤ o → o < n → M (k + 1) o = o → ¬ isLike T (M (p + 12)) (M (p + 1)) (M (k + 1)) l o n) → ∀ u : Int, 0 ≤ u → u + m < n → Ru (d + 3) kKinds_kindOf 18 [xO 2 k, xO 3 p, xI n, xI (hR M p (M (k + 1)) T l n), xI m, xI u] [] M Q := by
    refine loop_dn (-1) (P := fun m => (m < n ∧ (0 ≤ m → M (p + 12) l ≤ m ∧ M (k + 1) m = m ∧ hR M p (M (k + 1)) T l m = hR M p (M (k + 1)) T l n) ∧ ∀ o : Int, m < o → M (p + 12) l ≤ o → o < n → M (k + 1) o = o → ¬ isLike T (M (p + 12)) (M (p + 1)) (M (k + 1)) l o n) → ∀ u : Int, 0 ≤ u → u + m < n → Ru (d + 3) kKinds_kindOf 18 [xO 2 k, xO 3 p, xI n, xI (hR M p (M (k + 1)) T l n), xI m, xI u] [] M Q) (fun m m0 ih hm u u0 u1 => ?_)
    obtain ⟨mn, mr, mo⟩ := hm
    refine vKinds_kindOf_18 ⟨fun y => by omega, fun _ => ⟨fun y => vKinds_kindOf_79 ⟨hrb2, by omega, hrb2, ?_⟩, fun y => ⟨fun y2 => by omega, fun y2 => ?_⟩⟩⟩
    · refine h _ n ⟨by omega, Int.le_refl _⟩ (KI_s hw hN hl.1 hl.2 ha.2.1.1 ha.2.1.2 hI (Or.inl ⟨rfl, fun o o0 o1 ho => mo o (by omega) o0 o1 ho, ?_, ?_⟩)) (fun b j h1 h2 => by rw [up_un (by omega), up_un (by omega)])
      · funext j
        unfold uf
        by_cases e : j = hR M p (M (k + 1)) T l n
        · rw [if_pos e, up_at rfl e]
        · rw [if_neg e, up_off e, up_ne (by omega)]
      · funext j
        unfold uf
        by_cases e : j = n
        · rw [if_pos e, up_ne (by omega), up_at rfl e]
        · rw [if_neg e, up_ne (by omega), up_off e]
    · obtain ⟨r1, r2, r3⟩ := mr (by omega)
      have hma : NA M p T m l := NT_nd hw hN hl.1 hl.2 r1 (by have := ha.2.1; omega)
      -- not like: on to the next of the row
      have next : ¬ isLike T (M (p + 12)) (M (p + 1)) (M (k + 1)) l m n → Ru (d + 3) kKinds_kindOf 18 [xO 2 k, xO 3 p, xI n, xI (hR M p (M (k + 1)) T l n), xI (M (k + 3) m), xI (z32 (u + 1))] [] M Q := fun hno => by
        rw [z32_id (x := u + 1) (by omega) (by omega)]
        have hpv := hI.2.2.2 m r1 mn r2
        have hgen : ∀ o : Int, M (k + 3) m < o → M (p + 12) l ≤ o → o < n → M (k + 1) o = o → (o < m → ¬ hR M p (M (k + 1)) T l o = hR M p (M (k + 1)) T l m) → ¬ isLike T (M (p + 12)) (M (p + 1)) (M (k + 1)) l o n := fun o o0 o1 o2 o3 o4 z => by
          rcases (show o < m ∨ o = m ∨ m < o by omega) with e | e | e
          · have hoa : NA M p T o l := NT_nd hw hN hl.1 hl.2 o1 (by have := ha.2.1; omega)
            exact o4 e (by rw [r3]; exact like_row hw hN hoa ha z)
          · rw [e] at z; exact hno z
          · exact mo o e o1 o2 o3 z
        rcases hpv with ⟨a1, a2⟩ | ⟨a1, a2, a3, a4⟩
        · rw [a1]
          exact ih (-1) (by decide) (by omega) ⟨by omega, fun z => absurd z (by decide), fun o o0 o1 o2 o3 => hgen o (by omega) o1 o2 o3 (fun e => a2 o o1 e o3)⟩ (u + 1) (by omega) (by omega)
        · exact ih (M (k + 3) m) (by omega) (by omega) ⟨by omega, fun _ => ⟨a1.1, a2, by rw [a3, r3]⟩, fun o o0 o1 o2 o3 => hgen o o0 o1 o2 o3 (fun e => a4 o o0 e o3)⟩ (u + 1) (by omega) (by omega)
      have lki := like_iff (K := M (k + 1)) hw hN hma ha
      refine qNodes_isSame hN hN hma ha (fun hs => vKinds_kindOf_47 ⟨fun z => absurd z (by decide), fun _ => ?_⟩) (fun hs => vKinds_kindOf_47 ⟨fun _ => ⟨by omega, next (fun z => hs (lki.mp z).1)⟩, fun z => absurd rfl z⟩)
      have h3 := same_to hw (P64 hw hl.1 hl.2) hs
      have hkk := (same_of h3).2.1
      refine qKinds_leadToLike hw hN hma ha hkk (fun hk => vKinds_kindOf_58 ⟨fun z => absurd z (by decide), fun _ => ?_⟩) (fun hk => vKinds_kindOf_58 ⟨fun _ => ⟨by omega, next (fun z => hk (lki.mp z).2)⟩, fun z => absurd rfl z⟩)
      exact h M m ⟨by omega, by omega⟩ (KI_s hw hN hl.1 hl.2 ha.2.1.1 ha.2.1.2 hI (Or.inr ⟨⟨r1, mn⟩, r2, lki.mpr ⟨hs, hk⟩, rfl, rfl⟩)) (fun _ _ _ _ => rfl)
  have hst := hI.2.2.1 _ hrb2.1 hrb2.2
  rcases hst with ⟨a1, a2⟩ | ⟨a1, a2, a3, a4⟩
  · rw [a1]
    refine walk (-1) (by decide) ⟨by omega, fun z => absurd z (by decide), fun o o0 o1 o2 o3 z => ?_⟩ 0 (by decide) (by omega)
    have hoa : NA M p T o l := NT_nd hw hN hl.1 hl.2 o1 (by have := ha.2.1; omega)
    exact a2 o o1 o2 o3 (like_row hw hN hoa ha z)
  · refine walk _ (by omega) ⟨a1.2, fun _ => ⟨a1.1, a2, a3⟩, fun o o0 o1 o2 o3 z => ?_⟩ 0 (by decide) (by omega)
    have hoa : NA M p T o l := NT_nd hw hN hl.1 hl.2 o1 (by have := ha.2.1; omega)
    exact a4 o o0 o2 o3 (like_row hw hN hoa ha z)
end KindClass

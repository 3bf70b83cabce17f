/-! KINDS ARE FOUND, in both. -/
section KindFind
variable {d : Nat} {M : xM} {Q : xQ} {T : TB} {p k : Int}
theorem KI_new (hN : NT M p T) {K RS NX : Int → Int} {l : Int} (h : ∀ j o : Int, l < j → j < tZ T → M (p + 12) j ≤ o → o < M (p + 12) (j + 1) → isKn T (M (p + 12)) (M (p + 1)) K j o) (hr : ∀ ρ : Int, 0 ≤ ρ → ρ < 64 → RS ρ = -1) : KI M p K RS NX T l (M (p + 12) l) :=
  ⟨h, fun o o0 o1 => by omega, fun ρ r0 r1 => Or.inl ⟨hr ρ r0 r1, fun o o0 o1 => by omega⟩, fun o o0 o1 => by omega⟩
theorem NT_eq {M N : xM} (e : ∀ b j : Int, p ≤ b → b ≤ p + 14 → N b j = M b j) : (∀ K RS NX : Int → Int, ∀ l n : Int, KI N p K RS NX T l n ↔ KI M p K RS NX T l n) ∧ N (p + 12) = M (p + 12) ∧ N (p + 1) = M (p + 1) ∧ N p 0 = M p 0 := by
  have e1 : N (p + 1) = M (p + 1) := funext fun j => e _ _ (by omega) (by omega)
  have e3 : N (p + 3) = M (p + 3) := funext fun j => e _ _ (by omega) (by omega)
  have e4 : N (p + 4) = M (p + 4) := funext fun j => e _ _ (by omega) (by omega)
  have e6 : N (p + 6) = M (p + 6) := funext fun j => e _ _ (by omega) (by omega)
  have e8 : N (p + 8) = M (p + 8) := funext fun j => e _ _ (by omega) (by omega)
  have e9 : N (p + 9) = M (p + 9) := funext fun j => e _ _ (by omega) (by omega)
  have e12 : N (p + 12) = M (p + 12) := funext fun j => e _ _ (by omega) (by omega)
  refine ⟨fun K RS NX l n => ?_, e12, e1, e _ _ (by omega) (by omega)⟩
  have eh : ∀ (K : Int → Int) (l n : Int), hR N p K T l n = hR M p K T l n := fun K l n => by
    unfold hR
    rw [e1, e3, e4, e6, e8, e9]
  unfold KI isPrev
  simp only [eh, e12, e1]
theorem qKinds_find (hw : tWF T) (hN : NT M p T) (hap : k + 3 < p ∨ p + 14 < k) (h : ∀ N : xM, isKind T (M (p + 12)) (M (p + 1)) (N (k + 1)) → (∀ b j : Int, ¬ (k + 1 ≤ b ∧ b ≤ k + 3) → N b j = M b j) → Q xU N) : Ru (d + 4) kKinds_find 0 [xO 2 k, xO 3 p, xU, xU, xU] [] M Q := by
  have hz := hw.2.2.2.2.2.1
  have h9 := hN.2.1
  refine vKinds_find_0 (loop_dn (-1) (P := fun i => ∀ (N : xM) (w3 w4 : xV), i ≤ 15 → (∀ j o : Int, i < j → j < tZ T → M (p + 12) j ≤ o → o < M (p + 12) (j + 1) → isKn T (M (p + 12)) (M (p + 1)) (N (k + 1)) j o) → (∀ b j : Int, ¬ (k + 1 ≤ b ∧ b ≤ k + 3) → N b j = M b j) → Ru (d + 4) kKinds_find 3 [xO 2 k, xO 3 p, xI i, w3, w4] [] N Q) (fun i hi ih N w3 w4 i1 hk hf => ?_) 15 (by decide) M _ _ (Int.le_refl _) (fun j o j0 j1 => by omega) (fun _ _ _ => rfl))
  refine vKinds_find_3 ⟨fun y => ?_, fun y => ?_⟩
  · refine h N (fun l n l0 l1 n0 n1 => hk l n (by omega) l1 n0 n1) hf
  · refine loop_up 64 (P := fun a => ∀ N2 : xM, 0 ≤ a → (∀ ρ : Int, 0 ≤ ρ → ρ < a → N2 (k + 2) ρ = -1) → (∀ b j : Int, ¬ b = k + 2 → N2 b j = N b j) → Ru (d + 4) kKinds_find 9 [xO 2 k, xO 3 p, xI i, xI a, w4] [] N2 Q) (fun a ha iha N2 a0 hr hf2 => ?_) 0 (by decide) N (by decide) (fun ρ r0 r1 => by omega) (fun _ _ _ => rfl)
    refine vKinds_find_9 ⟨fun y2 => ?_, fun y2 => ⟨by omega, ?_⟩⟩
    · have hf3 : ∀ b j : Int, ¬ (k + 1 ≤ b ∧ b ≤ k + 3) → N2 b j = M b j := fun b j hb => by rw [hf2 b j (by omega)]; exact hf b j hb
      have eK : N2 (k + 1) = N (k + 1) := funext fun j => hf2 _ _ (by omega)
      have hN2 : NT N2 p T := NT_fr hN (fun b j b0 b1 b2 b3 => hf3 b j (by omega))
      -- the nodes of a level
      have lvl : ∀ s0 b0 : Int, s0 = M (p + 12) i → b0 = M (p + 12) (i + 1) → i < tZ T → ∀ w : xV, Ru (d + 4) kKinds_find 41 [xO 2 k, xO 3 p, xI i, xI b0, xI s0] [] N2 Q := fun s0 b0 es eb il w => by
        subst es
        subst eb
        have hle := NT_le hN (i := i) (j := i + 1) (by omega) (by omega) (by omega)
        have hle2 := NT_le hN (i := i + 1) (j := tZ T) (by omega) (by omega) (Int.le_refl _)
        have hle0 := NT_le hN (i := 0) (j := i) (by decide) (by omega) (by omega)
        have hI0 : KI M p (N2 (k + 1)) (N2 (k + 2)) (N2 (k + 3)) T i (M (p + 12) i) := KI_new hN (by rw [eK]; exact hk) (fun ρ r0 r1 => hr ρ r0 (by omega))
        refine loop_up (M (p + 12) (i + 1)) (P := fun n => ∀ N3 : xM, M (p + 12) i ≤ n → KI M p (N3 (k + 1)) (N3 (k + 2)) (N3 (k + 3)) T i n → (∀ b j : Int, ¬ (k + 1 ≤ b ∧ b ≤ k + 3) → N3 b j = M b j) → Ru (d + 4) kKinds_find 41 [xO 2 k, xO 3 p, xI i, xI (M (p + 12) (i + 1)), xI n] [] N3 Q) (fun n hn ihn N3 n0 hI hf4 => ?_) (M (p + 12) i) hle N2 (Int.le_refl _) hI0 hf3
        refine vKinds_find_41 ⟨fun y3 => ?_, fun y3 => ⟨fun y4 => by omega, fun y4 => ?_⟩⟩
        · rw [z32_id (by omega) (by omega)]
          refine ih (i + -1) (by omega) (by omega) N3 _ _ (by omega) (fun j o j0 j1 o0 o1 => ?_) hf4
          by_cases e : j = i
          · subst e
            exact hI.2.1 o o0 (by omega)
          · exact hI.1 j o (by omega) j1 o0 o1
        · have hf5 : ∀ b j : Int, p ≤ b → b ≤ p + 14 → N3 b j = M b j := fun b j b0 b1 => hf4 b j (by omega)
          obtain ⟨kq, k12, k1, k0⟩ := NT_eq (T := T) hf5
          have hN3 : NT N3 p T := NT_fr hN (fun b j b0 b1 b2 b3 => hf5 b j b0 b1)
          have hA3 : NA N3 p T n i := NT_nd hw hN3 (by omega) il (by rw [k12]; exact n0) (by rw [k12]; omega)
          refine qKinds_kindOf hw hN3 hap hA3 ((kq _ _ _ _ _).mpr hI) (fun N4 x hx hI4 hf6 => vKinds_find_68 ⟨by omega, ?_⟩)
          rw [z32_id (by omega) (by omega)]
          refine ihn (n + 1) (by omega) (by omega) _ (by omega) ?_ (fun b j hb => by rw [up_un (by omega), hf6 b j (by omega) (by omega)]; exact hf4 b j hb)
          have e1 : up N4 (k + 1) n x (k + 1) = uf (N3 (k + 1)) n x := by
            funext j
            unfold uf
            by_cases e : j = n
            · rw [if_pos e, up_at rfl e]
            · rw [if_neg e, up_off e, hf6 _ _ (by omega) (by omega)]
          have e2 : up N4 (k + 1) n x (k + 2) = N4 (k + 2) := funext fun j => up_ne (by omega)
          have e3 : up N4 (k + 1) n x (k + 3) = N4 (k + 3) := funext fun j => up_ne (by omega)
          rw [e1, e2, e3]
          exact (kq _ _ _ _ _).mp hI4
      have e12 : N2 (p + 12) = M (p + 12) := funext fun j => hf3 _ _ (by omega)
      have e0 : N2 p 0 = M p 0 := hf3 _ _ (by omega)
      by_cases il : i < tZ T
      · refine qNodes_behindLevel hw hN2 (by omega) il (vKinds_find_33 (qNodes_startOfLevel hw hN2 (by omega) (by omega) (vKinds_find_39 ?_)))
        rw [e12]
        exact lvl _ _ rfl rfl il xU
      · refine (qNodes_outLevel hw hN2 (by omega) (by omega) (vKinds_find_33 ((qNodes_outLevel hw hN2 (by omega) (by omega) (vKinds_find_39 (vKinds_find_41 ⟨fun _ => ?_, fun y3 => absurd (Int.le_refl _) y3⟩))).1))).2
        rw [z32_id (by omega) (by omega)]
        refine ih (i + -1) (by omega) (by omega) N2 _ _ (by omega) (fun j o j0 j1 o0 o1 => by omega) hf3
    · rw [z32_id (by omega) (by omega)]
      refine iha (a + 1) (by omega) (by omega) _ (by omega) (fun ρ r0 r1 => ?_) (fun b j hb => by rw [up_ne (by omega)]; exact hf2 b j hb)
      by_cases e : ρ = a
      · rw [e, up_same]
      · rw [up_off e]; exact hr ρ r0 (by omega)
/-- how many first ones of kinds -/
theorem qKinds_unlikeIn {a b : Int} (a0 : 0 ≤ a) (ab : a ≤ b) (b1 : b ≤ 901) (h : Q (xI (cq (fun n => M (k + 1) n = n) b.toNat - cq (fun n => M (k + 1) n = n) a.toNat)) M) : Ru d kKinds_unlikeIn 0 [xO 2 k, xI a, xI b, xU, xU] [] M Q := by
  refine vKinds_unlikeIn_0 ?_
  rw [show xI 0 = xI (cq (fun n => M (k + 1) n = n) a.toNat - cq (fun n => M (k + 1) n = n) a.toNat) by rw [Int.sub_self]]
  refine loop_up b (P := fun n => a ≤ n → Ru d kKinds_unlikeIn 5 [xO 2 k, xI a, xI b, xI (cq (fun n => M (k + 1) n = n) n.toNat - cq (fun n => M (k + 1) n = n) a.toNat), xI n] [] M Q) (fun n hn ih n0 => ?_) a ab (Int.le_refl _)
  have c1 := cq_b (fun n => M (k + 1) n = n) n.toNat
  have c2 := cq_b (fun n => M (k + 1) n = n) a.toNat
  refine vKinds_unlikeIn_5 ⟨fun y => by omega, fun y => ⟨fun y2 => ?_, fun y2 => ⟨fun y3 => by omega, fun y3 => ⟨by omega, fun y4 => ?_, fun y4 => ?_⟩⟩⟩⟩
  · rw [show n = b by omega]
    exact h
  · have ih' := ih (n + 1) (by omega) (by omega) (by omega)
    rw [cq_n (P := fun n => M (k + 1) n = n) (by omega) y4] at ih'
    rw [z32_id (x := n + 1) (by omega) (by omega), z32_id (by omega) (by omega), Int.add_zero]
    exact ih'
  · have ih' := ih (n + 1) (by omega) (by omega) (by omega)
    rw [cq_y (P := fun n => M (k + 1) n = n) (by omega) (Classical.not_not.mp y4)] at ih'
    rw [z32_id (x := n + 1) (by omega) (by omega), z32_id (by omega) (by omega), show cq (fun n => M (k + 1) n = n) n.toNat - cq (fun n => M (k + 1) n = n) a.toNat + 1 = cq (fun n => M (k + 1) n = n) n.toNat + 1 - cq (fun n => M (k + 1) n = n) a.toNat by omega]
    exact ih'
end KindFind

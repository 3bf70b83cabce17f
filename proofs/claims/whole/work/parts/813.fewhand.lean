/-! THE FEWEST RULES are handed out, in both. -/
def arrL (V L H : Int → Int) : Int → List (Int × Int × Int) → Prop
  | _, [] => True
  | s, e :: r => (V s = e.1 ∧ L s = e.2.1 ∧ H s = e.2.2) ∧ arrL V L H (s + 1) r
theorem arrL_fr {V L H V2 L2 H2 : Int → Int} : ∀ (l : List (Int × Int × Int)) (s : Int), arrL V L H s l → (∀ j : Int, s ≤ j → j < s + l.length → V2 j = V j ∧ L2 j = L j ∧ H2 j = H j) → arrL V2 L2 H2 s l
  | [], _, _, _ => trivial
  | e :: r, s, h, g => by
    have hl : ((e :: r).length : Int) = r.length + 1 := by rw [List.length_cons]; omega
    obtain ⟨g1, g2, g3⟩ := g s (Int.le_refl _) (by omega)
    exact ⟨by rw [g1, g2, g3]; exact h.1, arrL_fr r (s + 1) h.2 (fun j j0 j1 => g j (by omega) (by omega))⟩
theorem arrL_app {V L H : Int → Int} : ∀ (l k : List (Int × Int × Int)) (s : Int), arrL V L H s l → arrL V L H (s + l.length) k → arrL V L H s (l ++ k)
  | [], k, s, _, h => by
    have e : s + (([] : List (Int × Int × Int)).length : Int) = s := by show s + 0 = s; omega
    rw [e] at h
    exact h
  | e :: r, k, s, h, g => by
    refine ⟨h.1, arrL_app r k (s + 1) h.2 ?_⟩
    rw [show s + 1 + (r.length : Int) = s + ((e :: r).length : Int) by rw [List.length_cons]; omega]
    exact g
section FewHand
variable {T : TB}
theorem fL_y {k : Nat} {v x : Int} (h : lfb T v (2 ^ k) = true) : fL T k v x = fA T k v x := by
  cases k with
  | zero => rfl
  | succ k =>
    show fA T (k + 1) v x ++ (if lfb T v (2 ^ (k + 1)) = true then [] else _) = _
    rw [if_pos h, List.append_nil]
theorem fL_n {k : Nat} {v x : Int} (h : lfb T v (2 ^ (k + 1)) = false) : fL T (k + 1) v x = fA T (k + 1) v x ++ (fL T k v (fO T (k + 1) v x) ++ fL T k (v + 2 ^ k) (fO T (k + 1) v x)) := by
  show fA T (k + 1) v x ++ (if lfb T v (2 ^ (k + 1)) = true then [] else _) = _
  rw [if_neg (by rw [h]; decide)]
theorem fA_in {k : Nat} {v x : Int} (h : tb (fS T k v) (x + 1).toNat = true) : fA T k v x = [] ∧ fO T k v x = x := ⟨if_pos h, if_pos h⟩
theorem fA_out {k : Nat} {v x : Int} (h : ¬ tb (fS T k v) (x + 1).toNat = true) : fA T k v x = [(v, 32 - (k : Int), (lw (fS T k v) : Int) - 1)] ∧ fO T k v x = (lw (fS T k v) : Int) - 1 := ⟨if_neg h, if_neg h⟩
theorem qFewest_hand (hw : tWF T) {p : Int} : ∀ (k : Nat) (d : Nat) (M : xM) (Q : xQ) (v x m s : Int), k ≤ 32 → 0 ≤ v → v + 2 ^ k ≤ 4294967296 → -1 ≤ x → x ≤ 59 → PT M p T k v m → 0 ≤ m → m + pC T k v ≤ M p 6 → M p 6 ≤ 3723 → M p 0 = s → 0 ≤ s → s + (fL T k v x).length ≤ 60 → (∀ N : xM, N p 0 = s + (fL T k v x).length → arrL (N (p + 1)) (N (p + 2)) (N (p + 3)) s (fL T k v x) → (∀ b j : Int, ¬ (b = p ∧ j = 0) → ¬ ((b = p + 1 ∨ b = p + 2 ∨ b = p + 3) ∧ s ≤ j) → N b j = M b j) → Q xU N) → Ru (d + k + 2) kFewest_hand 0 [xO 1 p, xI m, xL v, xU, xI (32 - (k : Int)), xI x, xU] [] M Q := by
  -- what stands behind the first rule
  have head : ∀ (k d : Nat) (M : xM) (Q : xQ) (v x m s : Int), k ≤ 32 → -1 ≤ x → x ≤ 59 → M (p + 4) m = fS T k v → 0 ≤ m → m < M p 6 → M p 6 ≤ 3723 → M p 0 = s → 0 ≤ s → s + (fA T k v x).length ≤ 60 → (∀ N : xM, N p 0 = s + (fA T k v x).length → arrL (N (p + 1)) (N (p + 2)) (N (p + 3)) s (fA T k v x) → (∀ b j : Int, ¬ (b = p ∧ j = 0) → ¬ ((b = p + 1 ∨ b = p + 2 ∨ b = p + 3) ∧ s ≤ j) → N b j = M b j) → Ru (d + 2) kFewest_hand 69 [xO 1 p, xI m, xL v, xU, xI (32 - (k : Int)), xI x, xI (fO T k v x)] [] N Q) → Ru (d + 2) kFewest_hand 0 [xO 1 p, xI m, xL v, xU, xI (32 - (k : Int)), xI x, xU] [] M Q := by
    intro k d M Q v x m s hk x0 x1 hS m0 m1 m2 es s0 s1 h
    refine vFewest_hand_0 ⟨fun z => by omega, fun _ => ⟨fun z => by omega, fun _ => ⟨fun z => by omega, fun _ => ⟨fun _ => ⟨by omega, ?_⟩, fun z => by omega⟩⟩⟩⟩
    rw [hS, z32_id (x := x + 1) (by omega) (by omega)]
    have hbit : land (fS T k v) (lshl 1 (x + 1)) = 0 ↔ tb (fS T k v) (x + 1).toNat = false := by
      have := land_bit (x := fS T k v) (s := (x + 1).toNat) (by omega)
      rw [show (((x + 1).toNat : Nat) : Int) = x + 1 by omega] at this
      exact this
    rw [hbit]
    refine ⟨fun q => ?_, fun q => ⟨by omega, ?_⟩⟩
    · have hy : tb (fS T k v) (x + 1).toNat = true := by
        cases e : tb (fS T k v) (x + 1).toNat with
        | true => rfl
        | false => exact absurd e q
      obtain ⟨e1, e2⟩ := fA_in hy
      rw [e1, e2] at h
      exact h M (by show M p 0 = s + 0; omega) trivial (fun _ _ _ _ => rfl)
    · have hn : ¬ tb (fS T k v) (x + 1).toNat = true := fun z => q (by rw [z]; decide)
      obtain ⟨e1, e2⟩ := fA_out hn
      obtain ⟨l1, l2, l3⟩ := lw_b hw k v
      rw [e1] at s1
      have s2 : s + 1 ≤ 60 := s1
      refine qFewest_leastOf l1 (vFewest_hand_58 (vFewest_append_0 ?_))
      rw [e1, e2] at h
      simp (disch := omega) only [up_un]
      rw [es, z32_id (x := s + 1) (by omega) (by omega)]
      refine ⟨fun z => by omega, fun _ => ⟨by omega, by omega, by omega, h _ up_same ⟨⟨?_, ?_, ?_⟩, trivial⟩ (fun b j hb1 hb2 => ?_)⟩⟩
      · rw [up_un (by omega), up_un (by omega), up_un (by omega), up_same]
      · rw [up_un (by omega), up_un (by omega), up_same]
      · rw [up_un (by omega), up_same]
      · rw [up_un (by omega), up_un (by omega), up_un (by omega), up_un (by omega)]
  intro k
  induction k with
  | zero =>
    intro d M Q v x m s hk v0 v1 x0 x1 hP m0 m1 m2 es s0 s1 h
    have e1 : pC T 0 v = 1 := rfl
    refine head 0 d M Q v x m s hk x0 x1 (PT_set hP) m0 (by omega) m2 es s0 s1 (fun N n0 nA nf => vFewest_hand_69 ?_)
    rw [nf (p + 5) m (by omega) (by omega), PT_leaf lfb_0 hP]
    exact ⟨by omega, fun _ => vFewest_hand_119 (h N n0 nA nf), fun z => absurd (by decide) z⟩
  | succ k ih =>
    intro d M Q v x m s hk v0 v1 x0 x1 hP m0 m1 m2 es s0 s1 h
    obtain ⟨p1, p2'⟩ := two_s k
    have hp1 := pC_1 (T := T) (k + 1) v
    rw [show d + (k + 1) + 2 = (d + (k + 1)) + 2 by omega]
    have hlen : (fA T (k + 1) v x).length ≤ (fL T (k + 1) v x).length := by
      show _ ≤ (fA T (k + 1) v x ++ _).length
      rw [List.length_append]; omega
    refine head (k + 1) (d + (k + 1)) M Q v x m s hk x0 x1 (PT_set hP) m0 (by omega) m2 es s0 (by omega) (fun N n0 nA nf => ?_)
    rw [show d + (k + 1) + 2 = (d + k + 2) + 1 by omega]
    refine vFewest_hand_69 ?_
    rw [nf (p + 5) m (by omega) (by omega)]
    cases hl : lfb T v (2 ^ (k + 1)) with
    | true =>
      rw [PT_leaf hl hP]
      rw [fL_y hl] at h
      exact ⟨by omega, fun _ => vFewest_hand_119 (h N n0 nA nf), fun z => absurd (by decide) z⟩
    | false =>
      have ec := pC_n hl
      have q1 := pC_1 (T := T) k v
      have q2 := pC_1 (T := T) k (v + 2 ^ k)
      obtain ⟨h5, hPl, hPr⟩ := hP.2.2 hl
      have hob := fO_b hw (k + 1) (v := v) x0 x1
      have eL := fL_n (x := x) hl
      rw [eL, List.length_append, List.length_append] at s1
      rw [eL, List.length_append, List.length_append] at h
      rw [h5]
      refine ⟨by omega, fun z => by omega, fun _ => ?_⟩
      have n6 : N p 6 = M p 6 := nf p 6 (by omega) (by omega)
      have hPl2 : PT N p T k v (m + 1) := PT_fr k v _ hPl (fun j j0 j1 => ⟨nf _ _ (by omega) (by omega), nf _ _ (by omega) (by omega)⟩)
      have hPr2 : PT N p T k (v + 2 ^ k) (m + 1 + pC T k v) := PT_fr k _ _ hPr (fun j j0 j1 => ⟨nf _ _ (by omega) (by omega), nf _ _ (by omega) (by omega)⟩)
      rw [z32_id (x := m + 1) (by omega) (by omega), z32_id (x := 32 - ((k + 1 : Nat) : Int) + 1) (by omega) (by omega), show 32 - ((k + 1 : Nat) : Int) + 1 = 32 - (k : Int) by omega]
      refine ih d N _ v (fO T (k + 1) v x) (m + 1) (s + (fA T (k + 1) v x).length) (by omega) v0 (by omega) hob.1 hob.2 hPl2 (by omega) (by omega) (by omega) n0 (by omega) (by omega) (fun N1 a0 aA af => vFewest_hand_92 ⟨by omega, ?_⟩)
      refine qRS_widthOf (by omega) (by omega) (vFewest_hand_105 ⟨by decide, ?_⟩)
      rw [af (p + 5) m (by omega) (by omega), nf (p + 5) m (by omega) (by omega), h5, wd_k (k := k + 1) rfl, ldiv_eq (by omega) (by omega) (by decide) (by decide), show (2 : Int) ^ (k + 1) / 2 = 2 ^ k by omega, z64_id (x := v + 2 ^ k) (by omega) (by omega), z32_id (x := 32 - ((k + 1 : Nat) : Int) + 1) (by omega) (by omega), show 32 - ((k + 1 : Nat) : Int) + 1 = 32 - (k : Int) by omega]
      have a6 : N1 p 6 = M p 6 := by rw [af p 6 (by omega) (by omega), n6]
      have hPr3 : PT N1 p T k (v + 2 ^ k) (m + 1 + pC T k v) := PT_fr k _ _ hPr2 (fun j j0 j1 => ⟨af _ _ (by omega) (by omega), af _ _ (by omega) (by omega)⟩)
      refine ih d N1 _ (v + 2 ^ k) (fO T (k + 1) v x) (m + 1 + pC T k v) (s + (fA T (k + 1) v x).length + (fL T k v (fO T (k + 1) v x)).length) (by omega) (by omega) (by omega) hob.1 hob.2 hPr3 (by omega) (by omega) (by omega) a0 (by omega) (by omega) (fun N2 c0 cA cf => vFewest_hand_119 ?_)
      refine h N2 (by rw [c0]; omega) (arrL_app _ _ _ ?_ (arrL_app _ _ _ ?_ ?_)) (fun b j hb1 hb2 => ?_)
      · exact arrL_fr _ _ (arrL_fr _ _ nA (fun j j0 j1 => ⟨af _ _ (by omega) (by omega), af _ _ (by omega) (by omega), af _ _ (by omega) (by omega)⟩)) (fun j j0 j1 => ⟨cf _ _ (by omega) (by omega), cf _ _ (by omega) (by omega), cf _ _ (by omega) (by omega)⟩)
      · exact arrL_fr _ _ aA (fun j j0 j1 => ⟨cf _ _ (by omega) (by omega), cf _ _ (by omega) (by omega), cf _ _ (by omega) (by omega)⟩)
      · exact cA
      · rw [cf b j hb1 (by omega), af b j hb1 (by omega), nf b j hb1 (by omega)]
/-- the fewest rules stand in the class -/
def FW (M : xM) (p : Int) (T : TB) : Prop := M p 0 = (fL T 32 0 (-1)).length ∧ arrL (M (p + 1)) (M (p + 2)) (M (p + 3)) 0 (fL T 32 0 (-1))
theorem qFewest_seek (hw : tWF T) {d : Nat} {M : xM} {Q : xQ} {p p2 : Int} (hap : p + 5 < p2 ∨ p2 + 7 < p) (hS : SR M p2 T) (h : ∀ N : xM, FW N p T → (∀ b j : Int, ¬ (p ≤ b ∧ b ≤ p + 5) → N b j = M b j) → Q xU N) : Ru (d + 35) kFewest_seek 0 [xO 1 p, xO 5 p2] [] M Q := by
  have e32 : (2 : Int) ^ 32 = 4294967296 := by decide
  have hlen := few_len hw
  have hn := hw.1
  have hpc := pC_all hw
  have hp1 := pC_1 (T := T) 32 0
  have hm := hS.1.1
  have hS2 : SR (up (up M p 6 0) p 0 0) p2 T := SR_fr hS (fun b j b0 b1 => by rw [up_un (by omega), up_un (by omega)])
  refine vFewest_seek_0 (qFewest_part hw hap 32 (d + 1) _ _ 0 0 0 (Nat.le_refl _) (Int.zero_emod _) (by decide) (by rw [e32]; decide) hS2 (by decide) ?_ ?_ ?_ (by decide) (by omega) (fun N n6 nP nf => vFewest_seek_18 ?_))
  · rw [up_un (by omega), up_un (by omega)]; omega
  · rw [up_un (by omega), up_un (by omega), hS.1.2.1]; decide
  · rw [up_un (by omega), up_same]
  · refine qFewest_hand hw 32 d N _ 0 (-1) 0 0 (Nat.le_refl _) (by decide) (by rw [e32]; decide) (by decide) (by decide) nP (by decide) (by omega) (by omega) ?_ (by decide) (by omega) (fun N2 o0 oA of => vFewest_seek_27 (h N2 ⟨by rw [o0]; omega, oA⟩ (fun b j hb => ?_)))
    · rw [nf p 0 (by omega) (by omega), up_same]
    · rw [of b j (by omega) (by omega), nf b j (by omega) (by omega), up_un (by omega), up_un (by omega)]
/-- what is in the list -/
theorem fA_prop (hw : tWF T) {k : Nat} {v x : Int} {e : Int × Int × Int} (h : e ∈ fA T k v x) : e.1 = v ∧ e.2.1 = 32 - (k : Int) ∧ ∃ a : Int, hp T a = e.2.2 := by
  by_cases hy : tb (fS T k v) (x + 1).toNat = true
  · rw [(fA_in hy).1] at h
    exact absurd h (List.not_mem_nil)
  · rw [(fA_out hy).1, List.mem_singleton] at h
    obtain ⟨l1, l2, l3⟩ := lw_b hw k v
    obtain ⟨a, a0, a1, a2⟩ := fS_me hw k v _ l1.2.1
    rw [h]
    exact ⟨rfl, rfl, a, by show hp T a = (lw (fS T k v) : Int) - 1; omega⟩
theorem fL_prop (hw : tWF T) : ∀ (k : Nat) (v x : Int), k ≤ 32 → v % 2 ^ k = 0 → (∀ e : Int × Int × Int, e ∈ fL T k v x → (v ≤ e.1 ∧ e.1 < v + 2 ^ k) ∧ (32 - (k : Int) ≤ e.2.1 ∧ e.2.1 ≤ 32) ∧ e.1 % wd e.2.1 = 0 ∧ ∃ a : Int, hp T a = e.2.2) ∧ (fL T k v x).Pairwise (fun e f => e.1 < f.1 ∨ (e.1 = f.1 ∧ e.2.1 < f.2.1))
  | 0, v, x, hk, hv => by
    refine ⟨fun e he => ?_, ?_⟩
    · obtain ⟨h1, h2, h3⟩ := fA_prop hw he
      rw [show (2 : Int) ^ 0 = 1 from rfl]
      exact ⟨by omega, by omega, by rw [h2, wd_32 |> fun z => (show wd (32 - ((0 : Nat) : Int)) = 1 from z)]; omega, h3⟩
    · show (fA T 0 v x).Pairwise _
      unfold fA
      split
      · exact List.Pairwise.nil
      · exact List.pairwise_singleton _ _
  | k + 1, v, x, hk, hv => by
    obtain ⟨p1, p2'⟩ := two_s k
    obtain ⟨m1, m2⟩ := mod_half hv
    have hA : ∀ e : Int × Int × Int, e ∈ fA T (k + 1) v x → (v ≤ e.1 ∧ e.1 < v + 2 ^ (k + 1)) ∧ (32 - ((k + 1 : Nat) : Int) ≤ e.2.1 ∧ e.2.1 ≤ 32) ∧ e.1 % wd e.2.1 = 0 ∧ ∃ a : Int, hp T a = e.2.2 := fun e he => by
      obtain ⟨h1, h2, h3⟩ := fA_prop hw he
      exact ⟨by omega, by omega, by rw [wd_k h2, h1]; exact hv, h3⟩
    have hA2 : (fA T (k + 1) v x).Pairwise (fun e f => e.1 < f.1 ∨ (e.1 = f.1 ∧ e.2.1 < f.2.1)) := by
      unfold fA
      split
      · exact List.Pairwise.nil
      · exact List.pairwise_singleton _ _
    cases hl : lfb T v (2 ^ (k + 1)) with
    | true =>
      rw [fL_y hl]
      exact ⟨hA, hA2⟩
    | false =>
      rw [fL_n hl]
      obtain ⟨a1, a2⟩ := fL_prop hw k v (fO T (k + 1) v x) (by omega) m1
      obtain ⟨b1, b2⟩ := fL_prop hw k (v + 2 ^ k) (fO T (k + 1) v x) (by omega) m2
      refine ⟨fun e he => ?_, ?_⟩
      · rcases List.mem_append.mp he with h | h
        · exact hA e h
        · rcases List.mem_append.mp h with h | h
          · obtain ⟨c1, c2, c3, c4⟩ := a1 e h
            exact ⟨by omega, by omega, c3, c4⟩
          · obtain ⟨c1, c2, c3, c4⟩ := b1 e h
            exact ⟨by omega, by omega, c3, c4⟩
      · refine List.pairwise_append.mpr ⟨hA2, List.pairwise_append.mpr ⟨a2, b2, fun e he f hf => ?_⟩, fun e he f hf => ?_⟩
        · obtain ⟨c1, c2, c3, c4⟩ := a1 e he
          obtain ⟨d1, d2, d3, d4⟩ := b1 f hf
          left; omega
        · obtain ⟨h1, h2, h3⟩ := fA_prop hw he
          rcases List.mem_append.mp hf with h | h
          · obtain ⟨c1, c2, c3, c4⟩ := a1 f h
            omega
          · obtain ⟨c1, c2, c3, c4⟩ := b1 f h
            omega
end FewHand

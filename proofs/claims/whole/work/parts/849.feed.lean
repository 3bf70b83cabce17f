/-! CALLS THAT CHANGE: feed, tell. -/
section Feed
variable {d : Nat} {M N : xM} {Q : xQ} {s r t : Int} {T T2 : TB} {a a2 : Int} {P : Int → TB} {kp : Int} {S : Int → TB} {tt : Int} {g g2 : Int → Int} {z z2 : Int}
theorem i255 (x : Int) : iand x 255 = x % 256 := iand_mask x (k := 8) (by decide)
theorem i2b_m (x : Int) : i2b x % 256 = x % 256 := by
  unfold i2b
  rw [Int8.toInt_toInt32, Int32.toInt_toInt8, Int32.toInt_ofInt]
  have h1 : ((x.bmod Int32.size).bmod (2 ^ 8)) % 256 = (x.bmod Int32.size) % 256 := Int.bmod_emod
  have h2 : (x.bmod Int32.size) % 4294967296 = x % 4294967296 := Int.bmod_emod
  rw [h1]
  omega
theorem i2b_255 (x : Int) : iand (i2b (i2b x)) 255 = iand x 255 := by rw [i255, i255, i2b_m, i2b_m]
theorem ap_step {v k zz : Int} (e : M t 0 = zz) (z0 : 0 ≤ zz) (z1 : zz < 400) (k0 : 0 ≤ k) (k1 : k ≤ 24) (h : ∀ N : xM, N t 0 = zz + 1 → N (t + 1) zz = iand (ishr v k) 255 → (∀ b j : Int, ¬ (b = t ∧ j = 0) → ¬ (b = t + 1 ∧ j = zz) → N b j = M b j) → Ru d kTape_append 3 [xO 7 t, xI v, xI (k - 8)] [] N Q) : Ru d kTape_append 3 [xO 7 t, xI v, xI k] [] M Q := by
  refine vTape_append_3 ⟨fun y => by omega, fun _ => ?_⟩
  rw [e, z32_id (x := k + -8) (by omega) (by omega), up_un (M := M) (by omega), e, z32_id (x := zz + 1) (by omega) (by omega)]
  refine ⟨fun y => by omega, fun _ => ⟨by omega, ?_⟩⟩
  rw [show k + -8 = k - 8 by omega]
  exact h _ (up_at rfl rfl) (by rw [up_un (by omega), up_at rfl rfl]) (fun b j q1 q2 => by rw [up_un (by omega), up_un (by omega)])
theorem qTape_append {v zz : Int} (e : M t 0 = zz) (z0 : 0 ≤ zz) (z1 : zz + 4 ≤ 400) (h : ∀ N : xM, N t 0 = zz + 4 → (∀ i : Int, 0 ≤ i → i < 4 → N (t + 1) (zz + i) = iand (ishr v (24 - 8 * i)) 255) → (∀ b j : Int, ¬ (b = t ∧ j = 0) → ¬ (b = t + 1 ∧ zz ≤ j ∧ j < zz + 4) → N b j = M b j) → Q xU N) : Ru d kTape_append 0 [xO 7 t, xI v, xU] [] M Q := by
  refine vTape_append_0 (ap_step e z0 (by omega) (by decide) (by decide) (fun N1 a1 b1 f1 => ?_))
  refine ap_step (k := 24 - 8) a1 (by omega) (by omega) (by decide) (by decide) (fun N2 a2 b2 f2 => ?_)
  refine ap_step (k := 24 - 8 - 8) a2 (by omega) (by omega) (by decide) (by decide) (fun N3 a3 b3 f3 => ?_)
  refine ap_step (k := 24 - 8 - 8 - 8) a3 (by omega) (by omega) (by decide) (by decide) (fun N4 a4 b4 f4 => ?_)
  refine vTape_append_3 ⟨fun _ => h N4 (by omega) (fun i i0 i1 => ?_) (fun b j q1 q2 => ?_), fun y => absurd (by decide) y⟩
  · rcases (by omega : i = 0 ∨ i = 1 ∨ i = 2 ∨ i = 3) with q | q | q | q <;> subst q
    · rw [f4 _ _ (by omega) (by omega), f3 _ _ (by omega) (by omega), f2 _ _ (by omega) (by omega), Int.add_zero]; exact b1
    · rw [f4 _ _ (by omega) (by omega), f3 _ _ (by omega) (by omega)]; exact b2
    · rw [f4 _ _ (by omega) (by omega), show zz + 2 = zz + 1 + 1 by omega]; exact b3
    · rw [show zz + 3 = zz + 1 + 1 + 1 by omega]; exact b4
  · rw [f4 b j q1 (by omega), f3 b j q1 (by omega), f2 b j q1 (by omega), f1 b j q1 (by omega)]
def fu (a1 a2 a3 a4 a5 : Int) : Int → Int := fun i => if i = 0 then a1 else if i = 1 then a2 else if i = 2 then a3 else if i = 3 then a4 else a5
def fdG (g : Int → Int) (z : Int) (u : Int → Int) : Int → Int := fun j => if j < z then g j else if j < z + 20 then iand (ishr (u ((j - z) / 4)) (24 - 8 * ((j - z) % 4))) 255 else -1
theorem fd_lt {u : Int → Int} {j : Int} (h : j < z) : fdG g z u j = g j := if_pos h
theorem fd_in {u : Int → Int} {j : Int} (h : z ≤ j) (h2 : j < z + 20) : fdG g z u j = iand (ishr (u ((j - z) / 4)) (24 - 8 * ((j - z) % 4))) 255 := by
  unfold fdG; rw [if_neg (by omega), if_pos h2]
theorem fd_OK {u : Int → Int} (h : gOK g z) (hz : z ≤ 380) : gOK (fdG g z u) (z + 20) := by
  obtain ⟨h1, h2, h3⟩ := h
  refine ⟨⟨by omega, by omega⟩, fun j hj => ?_, fun j j0 j1 => ?_⟩
  · unfold fdG; rw [if_neg (by omega), if_neg (by omega)]
  · by_cases c : j < z
    · rw [fd_lt c]; exact h3 j j0 c
    · rw [fd_in (by omega) j1, i255]; omega
/-- n words are told -/
def AP (M N : xM) (s : Int) (g : Int → Int) (z : Int) (u : Int → Int) (n : Int) : Prop := N (s + 1) 0 = z + 4 * n ∧ (∀ j : Int, 0 ≤ j → j < z + 4 * n → N (s + 1 + 1) j = fdG g z u j) ∧ ∀ b j : Int, ¬ (b = s + 1 ∧ j = 0) → ¬ b = s + 1 + 1 → N b j = M b j
theorem ap_all {u : Int → Int} {n v : Int} (hA : AP M N s g z u n) (n0 : 0 ≤ n) (n1 : n < 5) (z0 : 0 ≤ z) (hz : z ≤ 380) (ev : u n = v) (k : ∀ N2 : xM, AP M N2 s g z u (n + 1) → Q xU N2) : Ru d kTape_append 0 [xO 7 (s + 1), xI v, xU] [] N Q := by
  obtain ⟨h1, h2, h3⟩ := hA
  refine qTape_append h1 (by omega) (by omega) (fun N2 g1 g2 g3 => k N2 ⟨by omega, fun j j0 j1 => ?_, fun b j q1 q2 => by rw [g3 b j q1 (by omega)]; exact h3 b j q1 q2⟩)
  by_cases c : j < z + 4 * n
  · rw [g3 _ _ (by omega) (by omega)]; exact h2 j j0 c
  · rw [fd_in (by omega) (by omega), show (j - z) / 4 = n by omega, ev, show (j - z) % 4 = j - (z + 4 * n) by omega]
    have := g2 (j - (z + 4 * n)) (by omega) (by omega)
    rw [show z + 4 * n + (j - (z + 4 * n)) = j by omega] at this
    exact this
theorem aRS_feed {a1 a2 a3 a4 a5 : Int} (hw : Wf T a P kp S) (hC : Cls M s T a P kp S tt g z) (h0 : 380 < z → Q (xI (-1)) M) (h1 : ∀ N : xM, z ≤ 380 → Cls N s T a P kp S tt (fdG g z (fu a1 a2 a3 a4 a5)) (z + 20) → frC M N s → Q (xI (z + 20)) N) : Ru (d + 100) kRS_feed 0 [xO 8 s, xI a1, xI a2, xI a3, xI a4, xI a5] [] M Q := by
  have hT := hC.2.2.2.2.2.1
  have zb := hT.1.1
  refine vRS_feed_0 (vTape_hasRoom_0 ?_)
  rw [hT.2.1, z32_id (by omega) (by omega)]
  refine ⟨fun y => vRS_feed_7 ⟨fun q => absurd rfl q, fun _ => h0 (by omega)⟩, fun y => vRS_feed_7 ⟨fun _ => ?_, fun q => absurd (by decide) q⟩⟩
  have zz : z ≤ 380 := by omega
  have A0 : AP M M s g z (fu a1 a2 a3 a4 a5) 0 := ⟨by rw [hT.2.1]; omega, fun j j0 j1 => by rw [fd_lt (by omega)]; exact hT.2.2 j j0 (by omega), fun _ _ _ _ => rfl⟩
  refine ap_all A0 (by decide) (by decide) zb.1 zz rfl (fun N1 A1 => vRS_feed_20 ?_)
  refine ap_all A1 (by decide) (by decide) zb.1 zz rfl (fun N2 A2 => vRS_feed_28 ?_)
  refine ap_all A2 (by decide) (by decide) zb.1 zz rfl (fun N3 A3 => vRS_feed_36 ?_)
  refine ap_all A3 (by decide) (by decide) zb.1 zz rfl (fun N4 A4 => vRS_feed_45 ?_)
  refine ap_all A4 (by decide) (by decide) zb.1 zz rfl (fun N5 A5 => vRS_feed_54 ?_)
  obtain ⟨c1, c2, c3⟩ := A5
  have e5 : z + 4 * (0 + 1 + 1 + 1 + 1 + 1) = z + 20 := by omega
  rw [e5] at c1 c2
  rw [c1]
  exact h1 N5 zz (Cls_tape hw hC ⟨fd_OK hT.1 zz, c1, c2⟩ (fun b j b0 b1 b2 b3 => c3 b j (by omega) b3)) (fun b j h => c3 b j (by omega) (by omega))
theorem aMo_feed {a1 a2 a3 a4 a5 : Int} (hw : Wf T a P kp S) (hR : Ref M r T a P kp S tt g z) (h0 : 380 < z → Q (xI (-1)) M) (h1 : ∀ N : xM, z ≤ 380 → Ref N r T a P kp S tt (fdG g z (fu a1 a2 a3 a4 a5)) (z + 20) → frR M N r → Q (xI (z + 20)) N) : Ru (d + 100) kMo_feed 0 [xO 9 r, xI a1, xI a2, xI a3, xI a4, xI a5, xU, xU] [] M Q := by
  have hG := hR.2.2.2.2.2.2
  have zb := hG.1.1
  refine vMo_feed_0 ?_
  rw [hG.2.1]
  refine ⟨fun zz => ?_, fun y => h0 (by omega)⟩
  have main : ∀ k : Int, k ≤ 20 → ∀ (N : xM) (w7 : xV), 0 ≤ k → (∀ j : Int, 0 ≤ j → j < k → iand (N (r + 22) (z + j)) 255 = fdG g z (fu a1 a2 a3 a4 a5) (z + j)) → (∀ b j : Int, ¬ (b = r + 22 ∧ z ≤ j) → N b j = M b j) → Ru (d + 100) kMo_feed 15 [xO 9 r, xI a1, xI a2, xI a3, xI a4, xI a5, xI k, w7] [] N Q := by
    refine loop_up 20 (fun k hk ih N w7 k0 f1 f2 => ?_)
    have e35 : N r 35 = z := by rw [f2 _ _ (by omega)]; exact hG.2.1
    refine vMo_feed_15 ?_
    rw [e35, z32_id (x := z + 20) (by omega) (by omega), z32_id (x := z + k) (by omega) (by omega)]
    refine ⟨fun y => ?_, fun y => ?_⟩
    · rw [up_at rfl rfl]
      refine h1 _ zz (Ref_tape hR hw.1 ⟨fd_OK hG.1 zz, up_at rfl rfl, fun j j0 j1 => ?_⟩ ?_) (fun b j h => by rw [up_un (by omega)]; exact f2 b j (by omega))
      · rw [up_un (by omega)]
        by_cases c : j < z
        · rw [fd_lt c, f2 _ _ (by omega)]; exact hG.2.2 j j0 c
        · have := f1 (j - z) (by omega) (by omega)
          rw [show z + (j - z) = j by omega] at this
          exact this
      · intro b j q1 q2
        rw [up_un (by omega)]; exact f2 b j (by omega)
    · rw [irem_eq (by omega) (by omega) (by decide) (by decide), z32_id (x := 8 * (k % 4)) (by omega) (by omega), z32_id (x := 24 - 8 * (k % 4)) (by omega) (by omega), z32_id (x := k + 1) (by omega) (by omega)]
      have st : ∀ v : Int, fu a1 a2 a3 a4 a5 (k / 4) = v → Ru (d + 100) kMo_feed 15 [xO 9 r, xI a1, xI a2, xI a3, xI a4, xI a5, xI (k + 1), xI v] [] (up N (r + 22) (z + k) (i2b (i2b (ishr v (24 - 8 * (k % 4)))))) Q := fun v hv => by
        refine ih (k + 1) (by omega) (by omega) _ _ (by omega) (fun j j0 j1 => ?_) (fun b j q => by rw [up_un (by omega)]; exact f2 b j q)
        by_cases c : j = k
        · rw [c, up_at rfl rfl, i2b_255, fd_in (by omega) (by omega), show z + k - z = k by omega, hv]
        · rw [up_un (by omega)]; exact f1 j j0 (by omega)
      refine ⟨fun c1 => ⟨fun c2 => ⟨fun c3 => ⟨fun c4 => ⟨by decide, by omega, st a5 ?_⟩, fun c4 => ⟨by decide, by omega, st a4 ?_⟩⟩, fun c3 => ⟨by decide, by omega, st a3 ?_⟩⟩, fun c2 => ⟨by decide, by omega, st a2 ?_⟩⟩, fun c1 => ⟨by decide, by omega, st a1 ?_⟩⟩
      · rw [show k / 4 = 4 by omega]; rfl
      · rw [show k / 4 = 3 by omega]; rfl
      · rw [show k / 4 = 2 by omega]; rfl
      · rw [show k / 4 = 1 by omega]; rfl
      · rw [show k / 4 = 0 by omega]; rfl
  exact main 0 (by decide) M _ (by decide) (fun j j0 j1 => by omega) (fun _ _ _ => rfl)
theorem bo_feed (a1 a2 a3 a4 a5 : Int) : Bo kRS_feed [xO 8 0, xI a1, xI a2, xI a3, xI a4, xI a5] kMo_feed [xO 9 198, xI a1, xI a2, xI a3, xI a4, xI a5, xU, xU] xI := by
  refine bo_mk (fun σ x σ2 => (380 < σ.2.2.2.2.2.2.2 ∧ x = -1 ∧ σ2 = σ) ∨ (σ.2.2.2.2.2.2.2 ≤ 380 ∧ x = σ.2.2.2.2.2.2.2 + 20 ∧ σ2 = (σ.1, σ.2.1, σ.2.2.1, σ.2.2.2.1, σ.2.2.2.2.1, σ.2.2.2.2.2.1, fdG σ.2.2.2.2.2.2.1 σ.2.2.2.2.2.2.2 (fu a1 a2 a3 a4 a5), σ.2.2.2.2.2.2.2 + 20))) ?_ ?_
  · rintro d M Q ⟨T, a, P, kp, S, tt, g, z⟩ hw hC k
    exact aRS_feed (T := T) (a := a) (P := P) (kp := kp) (S := S) (tt := tt) (g := g) (z := z) hw hC (fun y => k M _ _ (Or.inl ⟨y, rfl, rfl⟩) hw hC frC_r) (fun N y hN hF => k N _ (T, a, P, kp, S, tt, fdG g z (fu a1 a2 a3 a4 a5), z + 20) (Or.inr ⟨y, rfl, rfl⟩) hw hN hF)
  · rintro d M Q ⟨T, a, P, kp, S, tt, g, z⟩ x σ2 hw hw2 hR ha k
    refine aMo_feed (T := T) (a := a) (P := P) (kp := kp) (S := S) (tt := tt) (g := g) (z := z) hw hR (fun y => ?_) (fun N y hN hF => ?_)
    · rcases ha with ⟨c, hx, hs⟩ | ⟨c, hx, hs⟩
      · exact qe (k M (by rw [hs]; exact hR) frR_r) hx.symm
      · have c' : z ≤ 380 := c
        omega
    · rcases ha with ⟨c, hx, hs⟩ | ⟨c, hx, hs⟩
      · have c' : 380 < z := c
        omega
      · exact qe (k N (by rw [hs]; exact hN) hF) hx.symm
end Feed

/-! THE LAW: every call of both answers alike, so it comes to true. -/
section Law
theorem law_loop {d : Nat} {M0 : xM} (l0 : 0 ≤ M0 (-1) 0) (l1 : M0 (-1) 0 ≤ 3072) (hv : ∀ j : Int, 0 ≤ j → j < M0 (-1) 0 → i32 (M0 (-1) (j + 1))) : ∀ i : Int, i ≤ M0 (-1) 0 + 6 → ∀ N : xM, 0 ≤ i → Rel N → (∀ j : Int, N (-1) j = M0 (-1) j) → Ru (d + 101) kLaw_law 18 [xX, xO 8 0, xO 9 198, xI i] [] N (fun r _ => r = xI 1) := by
  refine loop_up (M0 (-1) 0 + 6) (fun i hi ih N i0 hR hs => ?_)
  refine vLaw_law_18 ?_
  simp only [hs]
  rw [z32_id (x := M0 (-1) 0 - 6) (by omega) (by omega)]
  refine ⟨fun _ => trivial, fun y => ⟨by omega, ?_⟩⟩
  have e1 : z32 (i + 1) = i + 1 := z32_id (by omega) (by omega)
  have e2 : z32 (i + 2) = i + 2 := z32_id (by omega) (by omega)
  have e3 : z32 (i + 3) = i + 3 := z32_id (by omega) (by omega)
  have e4 : z32 (i + 4) = i + 4 := z32_id (by omega) (by omega)
  have e5 : z32 (i + 5) = i + 5 := z32_id (by omega) (by omega)
  simp only [e1, e2, e3, e4, e5]
  have step : ∀ N2 : xM, Rel N2 → (∀ j : Int, N2 (-1) j = N (-1) j) → Ru (d + 101) kLaw_law 18 [xX, xO 8 0, xO 9 198, xI (z32 (i + 6))] [] N2 (fun r _ => r = xI 1) := fun N2 h1 h2 => by
    rw [z32_id (x := i + 6) (by omega) (by omega)]
    exact ih (i + 6) (by omega) (by omega) N2 (by omega) h1 (fun j => by rw [h2 j, hs j])
  refine ⟨fun _ => ?_, fun _ => ⟨fun _ => ?_, fun _ => ⟨fun _ => ?_, fun _ => ⟨fun _ => ?_, fun _ => ⟨fun _ => ?_, fun _ => ⟨fun _ => ?_, fun _ => ⟨fun _ => ?_, fun _ => ⟨fun _ => ?_, fun _ => ⟨fun _ => ?_, fun _ => ⟨fun _ => ?_, fun _ => ⟨fun _ => ?_, fun _ => ⟨fun _ => ?_, fun _ => ⟨fun _ => ?_, fun _ => ⟨fun _ => ?_, fun _ => ⟨fun _ => ?_, fun _ => ⟨fun _ => ?_, fun _ => ⟨fun _ => ?_, fun _ => ⟨fun _ => ?_, fun _ => ⟨fun _ => ?_, fun _ => ⟨fun _ => ?_, fun _ => ⟨fun _ => ?_, fun _ => ⟨fun _ => ?_, fun _ => ⟨fun _ => ?_, fun _ => ⟨fun _ => ?_, fun _ => ⟨fun _ => ?_, fun _ => ⟨fun _ => ?_, fun _ => ⟨fun _ => ?_, fun _ => ⟨fun _ => ?_, fun _ => ⟨fun _ => ?_, fun _ => ⟨fun _ => ?_, fun _ => ⟨fun _ => ?_, fun _ => ⟨fun _ => ?_, fun _ => ?_⟩⟩⟩⟩⟩⟩⟩⟩⟩⟩⟩⟩⟩⟩⟩⟩⟩⟩⟩⟩⟩⟩⟩⟩⟩⟩⟩⟩⟩⟩⟩⟩
  · -- feed
    refine ⟨by omega, by omega, by omega, by omega, by omega, RuC.mono (fun v N2 h => ?_) (bo_feed (M0 (-1) (i + 1 + 1)) (M0 (-1) (i + 2 + 1)) (M0 (-1) (i + 3 + 1)) (M0 (-1) (i + 4 + 1)) (M0 (-1) (i + 5 + 1)) d N hR)⟩
    obtain ⟨hs2, x, hvx, hk⟩ := h
    subst hvx
    refine vLaw_law_205 ?_
    simp only [hs2, hs, e1, e2, e3, e4, e5]
    exact ⟨by omega, by omega, by omega, by omega, by omega, hk _ (fun N3 hR3 hs3 => vLaw_law_234 ⟨fun _ => step N3 hR3 hs3, fun n => absurd rfl n⟩)⟩
  · -- end
    refine ⟨by omega, RuC.mono (fun v N2 h => ?_) (bo_end (M0 (-1) (i + 1 + 1)) d N hR)⟩
    obtain ⟨hs2, x, hvx, hk⟩ := h
    subst hvx
    refine vLaw_law_248 ?_
    simp only [hs2, hs, e1]
    exact ⟨by omega, hk _ (fun N3 hR3 hs3 => vLaw_law_257 ⟨fun _ => step N3 hR3 hs3, fun n => absurd rfl n⟩)⟩
  · -- tell
    refine RuC.mono (fun v N2 h => ?_) (bo_tell  d N hR)
    obtain ⟨hs2, x, hvx, hk⟩ := h
    subst hvx
    refine vLaw_law_266 ?_
    exact hk _ (fun N3 hR3 hs3 => vLaw_law_270 ⟨fun _ => step N3 hR3 hs3, fun n => absurd rfl n⟩)
  · -- add
    refine ⟨by omega, by omega, by omega, by omega, RuC.mono (fun v N2 h => ?_) (bo_add (M0 (-1) (i + 1 + 1)) (M0 (-1) (i + 2 + 1)) (M0 (-1) (i + 3 + 1)) (M0 (-1) (i + 4 + 1)) d N hR)⟩
    obtain ⟨hs2, x, hvx, hk⟩ := h
    subst hvx
    refine vLaw_law_299 ?_
    simp only [hs2, hs, e1, e2, e3, e4]
    exact ⟨by omega, by omega, by omega, by omega, hk _ (fun N3 hR3 hs3 => vLaw_law_323 ⟨fun _ => step N3 hR3 hs3, fun n => absurd rfl n⟩)⟩
  · -- withdraw
    refine ⟨by omega, by omega, RuC.mono (fun v N2 h => ?_) (bo_withdraw (M0 (-1) (i + 1 + 1)) (M0 (-1) (i + 2 + 1)) d N hR)⟩
    obtain ⟨hs2, x, hvx, hk⟩ := h
    subst hvx
    refine vLaw_law_342 ?_
    simp only [hs2, hs, e1, e2]
    exact ⟨by omega, by omega, hk _ (fun N3 hR3 hs3 => vLaw_law_356 ⟨fun _ => step N3 hR3 hs3, fun n => absurd rfl n⟩)⟩
  · -- range
    refine ⟨by omega, by omega, by omega, by omega, RuC.mono (fun v N2 h => ?_) (bo_range (M0 (-1) (i + 1 + 1)) (M0 (-1) (i + 2 + 1)) (M0 (-1) (i + 3 + 1)) (M0 (-1) (i + 4 + 1)) d N hR)⟩
    obtain ⟨hs2, x, hvx, hk⟩ := h
    subst hvx
    refine vLaw_law_385 ?_
    simp only [hs2, hs, e1, e2, e3, e4]
    exact ⟨by omega, by omega, by omega, by omega, hk _ (fun N3 hR3 hs3 => vLaw_law_409 ⟨fun _ => step N3 hR3 hs3, fun n => absurd rfl n⟩)⟩
  · -- strides
    refine ⟨by omega, by omega, RuC.mono (fun v N2 h => ?_) (bo_strides (lor (lshl (M0 (-1) (i + 1 + 1)) 32) (land (M0 (-1) (i + 2 + 1)) 4294967295)) (lor_in _ _).2 d N hR)⟩
    obtain ⟨hs2, x, hvx, hk⟩ := h
    subst hvx
    refine vLaw_law_438 ?_
    simp only [hs2, hs, e1, e2]
    exact ⟨by omega, by omega, hk _ (fun N3 hR3 hs3 => vLaw_law_462 ⟨fun _ => step N3 hR3 hs3, fun n => absurd rfl n⟩)⟩
  · -- gather
    refine RuC.mono (fun v N2 h => ?_) (bo_gather  d N hR)
    obtain ⟨hs2, x, hvx, hk⟩ := h
    subst hvx
    refine vLaw_law_471 ?_
    exact hk _ (fun N3 hR3 hs3 => vLaw_law_475 ⟨fun _ => step N3 hR3 hs3, fun n => absurd rfl n⟩)
  · -- undo
    refine RuC.mono (fun v N2 h => ?_) (bo_undo  d N hR)
    obtain ⟨hs2, x, hvx, hk⟩ := h
    subst hvx
    refine vLaw_law_484 ?_
    exact hk _ (fun N3 hR3 hs3 => vLaw_law_488 ⟨fun _ => step N3 hR3 hs3, fun n => absurd rfl n⟩)
  · -- keep
    refine ⟨by omega, RuC.mono (fun v N2 h => ?_) (bo_keep (M0 (-1) (i + 1 + 1)) d N hR)⟩
    obtain ⟨hs2, x, hvx, hk⟩ := h
    subst hvx
    refine vLaw_law_502 ?_
    simp only [hs2, hs, e1]
    exact ⟨by omega, hk _ (fun N3 hR3 hs3 => vLaw_law_511 ⟨fun _ => step N3 hR3 hs3, fun n => absurd rfl n⟩)⟩
  · -- back
    refine ⟨by omega, RuC.mono (fun v N2 h => ?_) (bo_back (M0 (-1) (i + 1 + 1)) d N hR)⟩
    obtain ⟨hs2, x, hvx, hk⟩ := h
    subst hvx
    refine vLaw_law_525 ?_
    simp only [hs2, hs, e1]
    exact ⟨by omega, hk _ (fun N3 hR3 hs3 => vLaw_law_534 ⟨fun _ => step N3 hR3 hs3, fun n => absurd rfl n⟩)⟩
  · -- look
    refine ⟨by omega, by omega, RuC.mono (fun v N2 h => ?_) (bo_look (M0 (-1) (i + 1 + 1)) (M0 (-1) (i + 2 + 1)) d N hR)⟩
    obtain ⟨hs2, x, hvx, hk⟩ := h
    subst hvx
    refine vLaw_law_553 ?_
    simp only [hs2, hs, e1, e2]
    exact ⟨by omega, by omega, hk _ (fun N3 hR3 hs3 => vLaw_law_567 ⟨fun _ => step N3 hR3 hs3, fun n => absurd rfl n⟩)⟩
  · -- path
    refine ⟨by omega, by omega, RuC.mono (fun v N2 h => ?_) (bo_path (M0 (-1) (i + 1 + 1)) (M0 (-1) (i + 2 + 1)) d N hR)⟩
    obtain ⟨hs2, x, hvx, hk⟩ := h
    subst hvx
    refine vLaw_law_586 ?_
    simp only [hs2, hs, e1, e2]
    exact ⟨by omega, by omega, hk _ (fun N3 hR3 hs3 => vLaw_law_600 ⟨fun _ => step N3 hR3 hs3, fun n => absurd rfl n⟩)⟩
  · -- would
    refine ⟨by omega, by omega, by omega, by omega, RuC.mono (fun v N2 h => ?_) (bo_would (M0 (-1) (i + 1 + 1)) (M0 (-1) (i + 2 + 1)) (M0 (-1) (i + 3 + 1)) (M0 (-1) (i + 4 + 1)) d N hR)⟩
    obtain ⟨hs2, x, hvx, hk⟩ := h
    subst hvx
    refine vLaw_law_629 ?_
    simp only [hs2, hs, e1, e2, e3, e4]
    exact ⟨by omega, by omega, by omega, by omega, hk _ (fun N3 hR3 hs3 => vLaw_law_653 ⟨fun _ => step N3 hR3 hs3, fun n => absurd rfl n⟩)⟩
  · -- within
    refine ⟨by omega, by omega, by omega, RuC.mono (fun v N2 h => ?_) (bo_within (M0 (-1) (i + 1 + 1)) (M0 (-1) (i + 2 + 1)) (M0 (-1) (i + 3 + 1)) d N hR)⟩
    obtain ⟨hs2, x, hvx, hk⟩ := h
    subst hvx
    refine vLaw_law_677 ?_
    simp only [hs2, hs, e1, e2, e3]
    exact ⟨by omega, by omega, by omega, hk _ (fun N3 hR3 hs3 => vLaw_law_696 ⟨fun _ => step N3 hR3 hs3, fun n => absurd rfl n⟩)⟩
  · -- differs
    refine ⟨by omega, by omega, RuC.mono (fun v N2 h => ?_) (bo_differs (M0 (-1) (i + 1 + 1)) (M0 (-1) (i + 2 + 1)) d N hR)⟩
    obtain ⟨hs2, x, hvx, hk⟩ := h
    subst hvx
    refine vLaw_law_715 ?_
    simp only [hs2, hs, e1, e2]
    exact ⟨by omega, by omega, hk _ (fun N3 hR3 hs3 => vLaw_law_729 ⟨fun _ => step N3 hR3 hs3, fun n => absurd rfl n⟩)⟩
  · -- rule
    refine ⟨by omega, by omega, RuC.mono (fun v N2 h => ?_) (bo_rule (M0 (-1) (i + 1 + 1)) (M0 (-1) (i + 2 + 1)) d N hR)⟩
    obtain ⟨hs2, x, hvx, hk⟩ := h
    subst hvx
    refine vLaw_law_749 ?_
    simp only [hs2, hs, e1, e2]
    exact ⟨by omega, by omega, hk _ (fun N3 hR3 hs3 => vLaw_law_763 ⟨fun _ => step N3 hR3 hs3, fun n => absurd rfl n⟩)⟩
  · -- served
    refine ⟨by omega, RuC.mono (fun v N2 h => ?_) (bo_served (M0 (-1) (i + 1 + 1)) d N hR)⟩
    obtain ⟨hs2, x, hvx, hk⟩ := h
    subst hvx
    refine vLaw_law_777 ?_
    simp only [hs2, hs, e1]
    exact ⟨by omega, hk _ (fun N3 hR3 hs3 => vLaw_law_786 ⟨fun _ => step N3 hR3 hs3, fun n => absurd rfl n⟩)⟩
  · -- hop
    refine ⟨by omega, by omega, RuC.mono (fun v N2 h => ?_) (bo_hop (M0 (-1) (i + 1 + 1)) (M0 (-1) (i + 2 + 1)) d N hR)⟩
    obtain ⟨hs2, x, hvx, hk⟩ := h
    subst hvx
    refine vLaw_law_806 ?_
    simp only [hs2, hs, e1, e2]
    exact ⟨by omega, by omega, hk _ (fun N3 hR3 hs3 => vLaw_law_820 ⟨fun _ => step N3 hR3 hs3, fun n => absurd rfl n⟩)⟩
  · -- reach
    refine ⟨by omega, RuC.mono (fun v N2 h => ?_) (bo_reach (M0 (-1) (i + 1 + 1)) d N hR)⟩
    obtain ⟨hs2, x, hvx, hk⟩ := h
    subst hvx
    refine vLaw_law_834 ?_
    simp only [hs2, hs, e1]
    exact ⟨by omega, hk _ (fun N3 hR3 hs3 => vLaw_law_843 ⟨fun _ => step N3 hR3 hs3, fun n => absurd rfl n⟩)⟩
  · -- node
    refine ⟨by omega, by omega, RuC.mono (fun v N2 h => ?_) (bo_node (M0 (-1) (i + 1 + 1)) (M0 (-1) (i + 2 + 1)) d N hR)⟩
    obtain ⟨hs2, x, hvx, hk⟩ := h
    subst hvx
    refine vLaw_law_863 ?_
    simp only [hs2, hs, e1, e2]
    exact ⟨by omega, by omega, hk _ (fun N3 hR3 hs3 => vLaw_law_877 ⟨fun _ => step N3 hR3 hs3, fun n => absurd rfl n⟩)⟩
  · -- stored
    refine ⟨by omega, by omega, RuC.mono (fun v N2 h => ?_) (bo_stored (M0 (-1) (i + 1 + 1)) (M0 (-1) (i + 2 + 1)) d N hR)⟩
    obtain ⟨hs2, x, hvx, hk⟩ := h
    subst hvx
    refine vLaw_law_897 ?_
    simp only [hs2, hs, e1, e2]
    exact ⟨by omega, by omega, hk _ (fun N3 hR3 hs3 => vLaw_law_911 ⟨fun _ => step N3 hR3 hs3, fun n => absurd rfl n⟩)⟩
  · -- slot
    refine ⟨by omega, by omega, by omega, RuC.mono (fun v N2 h => ?_) (bo_slot (M0 (-1) (i + 1 + 1)) (M0 (-1) (i + 2 + 1)) (M0 (-1) (i + 3 + 1)) d N hR)⟩
    obtain ⟨hs2, x, hvx, hk⟩ := h
    subst hvx
    refine vLaw_law_935 ?_
    simp only [hs2, hs, e1, e2, e3]
    exact ⟨by omega, by omega, by omega, hk _ (fun N3 hR3 hs3 => vLaw_law_954 ⟨fun _ => step N3 hR3 hs3, fun n => absurd rfl n⟩)⟩
  · -- alike
    refine ⟨by omega, by omega, RuC.mono (fun v N2 h => ?_) (bo_alike (M0 (-1) (i + 1 + 1)) (M0 (-1) (i + 2 + 1)) d N hR)⟩
    obtain ⟨hs2, x, hvx, hk⟩ := h
    subst hvx
    refine vLaw_law_973 ?_
    simp only [hs2, hs, e1, e2]
    exact ⟨by omega, by omega, hk _ (fun N3 hR3 hs3 => vLaw_law_987 ⟨fun _ => step N3 hR3 hs3, fun n => absurd rfl n⟩)⟩
  · -- level
    refine ⟨by omega, by omega, RuC.mono (fun v N2 h => ?_) (bo_level (M0 (-1) (i + 1 + 1)) (M0 (-1) (i + 2 + 1)) d N hR)⟩
    obtain ⟨hs2, x, hvx, hk⟩ := h
    subst hvx
    refine vLaw_law_1006 ?_
    simp only [hs2, hs, e1, e2]
    exact ⟨by omega, by omega, hk _ (fun N3 hR3 hs3 => vLaw_law_1020 ⟨fun _ => step N3 hR3 hs3, fun n => absurd rfl n⟩)⟩
  · -- span
    refine ⟨by omega, by omega, RuC.mono (fun v N2 h => ?_) (bo_span (M0 (-1) (i + 1 + 1)) (M0 (-1) (i + 2 + 1)) d N hR)⟩
    obtain ⟨hs2, x, hvx, hk⟩ := h
    subst hvx
    refine vLaw_law_1039 ?_
    simp only [hs2, hs, e1, e2]
    exact ⟨by omega, by omega, hk _ (fun N3 hR3 hs3 => vLaw_law_1053 ⟨fun _ => step N3 hR3 hs3, fun n => absurd rfl n⟩)⟩
  · -- cover
    refine ⟨by omega, by omega, by omega, by omega, RuC.mono (fun v N2 h => ?_) (bo_cover (M0 (-1) (i + 1 + 1)) (M0 (-1) (i + 2 + 1)) (M0 (-1) (i + 3 + 1)) (M0 (-1) (i + 4 + 1)) d N hR)⟩
    obtain ⟨hs2, x, hvx, hk⟩ := h
    subst hvx
    refine vLaw_law_1083 ?_
    simp only [hs2, hs, e1, e2, e3, e4]
    exact ⟨by omega, by omega, by omega, by omega, hk _ (fun N3 hR3 hs3 => vLaw_law_1107 ⟨fun _ => step N3 hR3 hs3, fun n => absurd rfl n⟩)⟩
  · -- own
    refine ⟨by omega, by omega, by omega, RuC.mono (fun v N2 h => ?_) (bo_own (M0 (-1) (i + 1 + 1)) (M0 (-1) (i + 2 + 1)) (M0 (-1) (i + 3 + 1)) (hv (i + 2) (by omega) (by omega)).2 d N hR)⟩
    obtain ⟨hs2, x, hvx, hk⟩ := h
    subst hvx
    refine vLaw_law_1132 ?_
    simp only [hs2, hs, e1, e2, e3]
    exact ⟨by omega, by omega, by omega, hk _ (fun N3 hR3 hs3 => vLaw_law_1151 ⟨fun _ => step N3 hR3 hs3, fun n => absurd rfl n⟩)⟩
  · -- best
    refine ⟨by omega, by omega, RuC.mono (fun v N2 h => ?_) (bo_best (M0 (-1) (i + 1 + 1)) (M0 (-1) (i + 2 + 1)) d N hR)⟩
    obtain ⟨hs2, x, hvx, hk⟩ := h
    subst hvx
    refine vLaw_law_1171 ?_
    simp only [hs2, hs, e1, e2]
    exact ⟨by omega, by omega, hk _ (fun N3 hR3 hs3 => vLaw_law_1185 ⟨fun _ => step N3 hR3 hs3, fun n => absurd rfl n⟩)⟩
  · -- fewest
    refine ⟨by omega, by omega, RuC.mono (fun v N2 h => ?_) (bo_fewest (M0 (-1) (i + 1 + 1)) (M0 (-1) (i + 2 + 1)) d N hR)⟩
    obtain ⟨hs2, x, hvx, hk⟩ := h
    subst hvx
    refine vLaw_law_1205 ?_
    simp only [hs2, hs, e1, e2]
    exact ⟨by omega, by omega, hk _ (fun N3 hR3 hs3 => vLaw_law_1219 ⟨fun _ => step N3 hR3 hs3, fun n => absurd rfl n⟩)⟩
  · -- steps
    refine RuC.mono (fun v N2 h => ?_) (bo_steps  d N hR)
    obtain ⟨hs2, x, hvx, hk⟩ := h
    subst hvx
    refine vLaw_law_1229 ?_
    exact hk _ (fun N3 hR3 hs3 => vLaw_law_1233 ⟨fun _ => step N3 hR3 hs3, fun n => absurd rfl n⟩)
  · -- count
    refine ⟨by omega, RuC.mono (fun v N2 h => ?_) (bo_count (M0 (-1) (i + 1 + 1)) d N hR)⟩
    obtain ⟨hs2, x, hvx, hk⟩ := h
    subst hvx
    refine vLaw_law_1248 ?_
    simp only [hs2, hs, e1]
    exact ⟨by omega, hk _ (fun N3 hR3 hs3 => vLaw_law_1257 ⟨fun _ => step N3 hR3 hs3, fun n => absurd rfl n⟩)⟩
  · exact step N hR (fun _ => rfl)
theorem law_16 {d : Nat} {M0 : xM} (l0 : 0 ≤ M0 (-1) 0) (l1 : M0 (-1) 0 ≤ 3072) (hv : ∀ j : Int, 0 ≤ j → j < M0 (-1) 0 → i32 (M0 (-1) (j + 1))) (hR : Rel M0) : Ru (d + 101) kLaw_law 16 [xX, xO 8 0, xO 9 198, xU] [] M0 (fun r _ => r = xI 1) := vLaw_law_16 (law_loop l0 l1 hv 0 (by omega) M0 (Int.le_refl _) hR (fun _ => rfl))
end Law

/-! THE START: both new objects are in the relation. -/
theorem cM_m1 {B : xM} : ∀ (P : List cO) (j : Int), cM B P (-1) j = B (-1) j
  | [], _ => rfl
  | (o, a, k, v) :: P, j => by
    have ih := cM_m1 (B := B) P j
    have e : ¬ (-1 : Int) = (a : Int) := by omega
    match o with
    | 0 => show up (cM B P) a k v (-1) j = _; rw [up_ne e]; exact ih
    | 1 => show mnM (cM B P) a k (-1) j = _; rw [mnM_ne e]; exact ih
    | o + 2 => show dn (cM B P) a (-1) j = _; rw [dn_ne e]; exact ih
set_option maxRecDepth 100000 in
theorem st_b : (decide (rd mP 3 0 = 0) && (((List.range 60).all fun h => decide (rd mP 8 h = 0)) && (decide (rd mP 3 6 = 8) && (((List.range 8).all fun l => decide (rd mP 9 l = 4)) && (decide (rd mP 0 5 = 0) && (decide (rd mP 0 6 = 0) && (decide (rd mP 0 7 = 0) && (decide (rd mP 0 8 = 0) && (decide (rd mP 1 0 = 0) && (((List.range 10).all fun i => decide (rd mP 17 i = 114 + 7 * (i : Int))) && (decide (rd mP 18 0 = 184) && (decide (rd mP 18 1 = 191) && (decide (rd mP 47 0 = 0) && (decide (rd mP 48 0 = 0) && (decide (rd mP 62 0 = 0) && (decide (rd mP 63 0 = 0) && (((List.range 33).all fun j => decide (rd mP 77 j = 78 + (j : Int))) && (decide (rd mP 198 2 = 0) && (decide (rd mP 202 0 = 0) && (decide (rd mP 202 1 = 0) && (decide (rd mP 198 5 = 0) && decide (rd mP 198 35 = 0)))))))))))))))))))))) = true := by decide +kernel
theorem kb_0 {i : Int} : kb 0 i = 0 := by unfold kb; split <;> rfl
theorem start_rel {L : Nat} {xs : Nat → Int32} {N N2 : xM} (hc : RN N (198 + 1) E0 (tK E0)) (hf : ∀ b j : Int, ¬ b = 198 + 1 → N b j = cM (bM L xs) mP b j) (hW : RW N2 198 0 E0) (hn : NS N2 198 E0 (N2 (198 + 5) 0) (N2 (198 + 6)) ∧ N2 198 19 = 0) (hf2 : ∀ b j : Int, ¬ chT 198 0 b j → N2 b j = N b j) : Rel N2 := by
  have hb := st_b
  simp only [Bool.and_eq_true, decide_eq_true_eq] at hb
  obtain ⟨b1, b2, b3, b4, b5, b6, b7, b8, b9, b10, b11, b12, b13, b14, b15, b16, b17, b18, b19, b20, b21, b22⟩ := hb
  have E : ∀ (B J : Nat) (b j : Int), b = (B : Int) → j = (J : Int) → ¬ chT 198 0 b j → ¬ b = 199 → N2 b j = rd mP B J := by
    intro B J b j hb hj h1 h2
    subst hb
    subst hj
    rw [hf2 _ _ h1, hf _ _ h2]
    exact rd_ok bM_0 mP B J
  have C : ∀ (B J : Nat) (b j : Int), b = (B : Int) → j = (J : Int) → B < 198 → N2 b j = rd mP B J := fun B J b j hb hj hB => E B J b j hb hj (by unfold chT; omega) (by omega)
  have all_ : ∀ {n : Nat} {f : Nat → Bool}, ((List.range n).all f) = true → ∀ k : Nat, k < n → f k = true := fun h k hk => List.all_eq_true.mp h k (List.mem_range.mpr hk)
  have c8 : ∀ h : Int, 0 ≤ h → h < 60 → N2 (0 + 3 + 5) h = 0 := fun h h0 h1 => by
    obtain ⟨k, rfl⟩ := nat_of h0
    rw [C 8 k _ _ (by decide) rfl (by decide)]
    exact of_decide_eq_true (all_ b2 k (by omega))
  have c9 : ∀ l : Int, 0 ≤ l → l < 8 → N2 (0 + 3 + 6) l = 4 := fun h h0 h1 => by
    obtain ⟨k, rfl⟩ := nat_of h0
    rw [C 9 k _ _ (by decide) rfl (by decide)]
    exact of_decide_eq_true (all_ b4 k (by omega))
  have c17 : ∀ i : Int, 0 ≤ i → i < 10 → N2 (0 + 17) i = 0 + 114 + 7 * i := fun h h0 h1 => by
    obtain ⟨k, rfl⟩ := nat_of h0
    rw [C 17 k _ _ (by decide) rfl (by decide), show (0 : Int) + 114 + 7 * (k : Int) = 114 + 7 * (k : Int) by omega]
    exact of_decide_eq_true (all_ b10 k (by omega))
  have c77 : ∀ j : Int, 0 ≤ j → j ≤ 32 → N2 (0 + 75 + 2) j = 0 + 75 + 3 + j := fun h h0 h1 => by
    obtain ⟨k, rfl⟩ := nat_of h0
    rw [C 77 k _ _ (by decide) rfl (by decide), show (0 : Int) + 75 + 3 + (k : Int) = 78 + (k : Int) by omega]
    exact of_decide_eq_true (all_ b17 k (by omega))
  have g0 : gOK (fun _ => -1) 0 := ⟨⟨by decide, by decide⟩, fun _ _ => rfl, fun j j0 j1 => by omega⟩
  have hCT : CT N2 (0 + 3) E0 := ⟨(C 3 0 _ _ (by decide) (by decide) (by decide)).trans b1, fun k k0 k1 => absurd k1 (by show ¬ k < 0; omega), fun h h0 h1 => ⟨c8 h h0 h1, fun hu => absurd hu (by show ¬ (0 : Int) < 0; decide)⟩, (C 3 6 _ _ (by decide) (by decide) (by decide)).trans b3, fun l l0 l1 => c9 l l0 l1⟩
  have hCl : Cls N2 0 E0 0 (fun _ => E0) 0 (fun _ => E0) 0 (fun _ => -1) 0 := by
    refine ⟨hCT, ⟨(C 0 5 _ _ (by decide) (by decide) (by decide)).trans b5, ⟨fun i i0 i1 => ⟨i, ⟨i0, i1⟩, c17 i i0 i1⟩, fun i j i0 ij j1 => by rw [c17 i i0 (by omega), c17 j (by omega) j1]; omega⟩, fun i i0 i1 => by omega⟩, ⟨⟨(C 0 6 _ _ (by decide) (by decide) (by decide)).trans b6, (C 18 0 _ _ (by decide) (by decide) (by decide)).trans b11, (C 18 1 _ _ (by decide) (by decide) (by decide)).trans b12⟩, fun i i0 i1 q => absurd q (by rw [kb_0]; decide)⟩, ⟨Int.le_refl _, Or.inl ((C 0 7 _ _ (by decide) (by decide) (by decide)).trans b7)⟩, KN_0 ((C 0 8 _ _ (by decide) (by decide) (by decide)).trans b8), ⟨g0, (C 1 0 _ _ (by decide) (by decide) (by decide)).trans b9, fun j j0 j1 => by omega⟩, ⟨⟨(C 47 0 _ _ (by decide) (by decide) (by decide)).trans b13, (C 48 0 _ _ (by decide) (by decide) (by decide)).trans b14, (C 62 0 _ _ (by decide) (by decide) (by decide)).trans b15, (C 63 0 _ _ (by decide) (by decide) (by decide)).trans b16⟩, c77⟩⟩
  have hRf : Ref N2 198 E0 0 (fun _ => E0) 0 (fun _ => E0) 0 (fun _ => -1) 0 := by
    refine ⟨RT_fr (RN_of.mpr hc) (fun j => hf2 _ _ (by unfold chT; omega)), ⟨hW, hn.1⟩, Or.inl hn.2, ⟨(E 198 2 _ _ (by decide) (by decide) (by unfold chT; omega) (by decide)).trans b18, fun i i0 i1 => by omega⟩, fun i i0 i1 => ⟨?_, fun q => absurd q (by rw [kb_0]; decide)⟩, (E 198 5 _ _ (by decide) (by decide) (by unfold chT; omega) (by decide)).trans b21, ⟨g0, (E 198 35 _ _ (by decide) (by decide) (by unfold chT; omega) (by decide)).trans b22, fun j j0 j1 => by omega⟩⟩
    rw [kb_0]
    rcases (by omega : i = 0 ∨ i = 1) with q | q <;> subst q
    · exact (E 202 0 _ _ (by decide) (by decide) (by unfold chT; omega) (by decide)).trans b19
    · exact (E 202 1 _ _ (by decide) (by decide) (by unfold chT; omega) (by decide)).trans b20
  have hWf : Wf E0 0 (fun _ => E0) 0 (fun _ => E0) := ⟨E0_wf, ⟨by decide, by decide⟩, fun i i0 i1 => by omega, ⟨by decide, by decide⟩, fun i i0 i1 q => E0_wf⟩
  exact ⟨(E0, 0, fun _ => E0, 0, fun _ => E0, 0, fun _ => -1, 0), hWf, hCl, hRf⟩
/-- the script, and the relation -/
def IniP (L : Nat) (N : xM) : Prop := Rel N ∧ N (-1) 0 = (L : Int) ∧ ∀ j : Int, 0 ≤ j → j < (L : Int) → i32 (N (-1) (j + 1))
theorem start_ini {L : Nat} {xs : Nat → Int32} {N N2 : xM} (hc : RN N (198 + 1) E0 (tK E0)) (hf : ∀ b j : Int, ¬ b = 198 + 1 → N b j = cM (bM L xs) mP b j) (hW : RW N2 198 0 E0) (hn : NS N2 198 E0 (N2 (198 + 5) 0) (N2 (198 + 6)) ∧ N2 198 19 = 0) (hf2 : ∀ b j : Int, ¬ chT 198 0 b j → N2 b j = N b j) : IniP L N2 := by
  have s1 : ∀ j : Int, N2 (-1) j = bM L xs (-1) j := fun j => by
    rw [hf2 _ _ (by unfold chT; omega), hf _ _ (by decide)]
    exact cM_m1 mP j
  refine ⟨start_rel hc hf hW hn hf2, ?_, fun j j0 j1 => ?_⟩
  · rw [s1]
    unfold bM
    rw [if_pos rfl, if_pos rfl]
  · rw [s1]
    unfold bM
    rw [if_pos rfl, if_neg (by omega)]
    have h1 := Int32.le_toInt (xs (j + 1 - 1).toNat)
    have h2 := Int32.toInt_lt (xs (j + 1 - 1).toNat)
    exact ⟨by omega, by omega⟩
theorem ini_tf {cA : Nat → ClassId} {D : va_G} {A : Nat → Prop} {L : Nat} {xs : Nat → Int32} {l : Launch} : kTF cA D A L xs l := fun SH G d t B P => ru_sim (qTable_takeFirstStrides ⟨rfl, rfl⟩)
theorem ini_t1 {G : xG} {cA : Nat → ClassId} {D : va_G} {A : Nat → Prop} {L : Nat} {xs : Nat → Int32} {l : Launch} : xSim fSH G cA D A L xs l 1300 kMo_startsAnew 0 (lay [xO 9 198] 2) [] (cM (bM L xs) mP) (fun _ N => xSim fSH G cA D A L xs l 1300 kMo_laysTable 0 (lay [xO 9 198, xI 0, xAI 259 199, xI 0] 7) [] N (fun _ N2 => IniP L N2)) := by
  refine ru_sim (show Ru 1300 kMo_startsAnew 0 [xO 9 198, xU] [] (cM (bM L xs) mP) _ from qMo_startsAnew (fun N hc hf => ?_))
  refine ru_sim (show Ru 1300 kMo_laysTable 0 [xO 9 198, xI 0, xAI 259 (198 + 1), xI 0, xU, xU, xU] [] N _ from ?_)
  exact qMo_laysTable (d := 1295) E0_wf (RN_of.mpr hc) (by decide) (by decide) (by decide) (Or.inl rfl) (by decide) (by decide) (fun N2 hW hn hf2 => start_ini hc hf hW (hn rfl) hf2)
theorem ini_law {G : xG} {cA : Nat → ClassId} {D : va_G} {A : Nat → Prop} {L : Nat} {xs : Nat → Int32} {l : Launch} {N : xM} (hL : L ≤ 3072) (h : IniP L N) : xSim fSH G cA D A L xs l 1300 263 16 [xX, xO 8 0, xO 9 198, xU] [] N (fun r _ => r = xI 1) :=
  ru_sim (law_16 (d := 1199) (by rw [h.2.1]; omega) (by rw [h.2.1]; omega) (by rw [h.2.1]; exact h.2.2) h.1)

/-! All lists agree with the bytes. -/
theorem xchk_all : ∀ k, k < 263 → xchk k = true := by
  intro k hk
  have key : ∀ a n : Nat, ((List.range' a n).all xchk) = true → a ≤ k → k < a + n → xchk k = true := by
    intro a n h h1 h2
    exact List.all_eq_true.mp h k (List.mem_range'_1.mpr ⟨h1, h2⟩)
  by_cases h : k < 132
  · by_cases h1 : k < 60
    · by_cases h2 : k < 24
      · by_cases h3 : k < 12
        · exact key _ _ xchk_0 (by omega) (by omega)
        · exact key _ _ xchk_1 (by omega) (by omega)
      · by_cases h3 : k < 36
        · exact key _ _ xchk_2 (by omega) (by omega)
        · by_cases h4 : k < 48
          · exact key _ _ xchk_3 (by omega) (by omega)
          · exact key _ _ xchk_4 (by omega) (by omega)
    · by_cases h2 : k < 96
      · by_cases h3 : k < 72
        · exact key _ _ xchk_5 (by omega) (by omega)
        · by_cases h4 : k < 84
          · exact key _ _ xchk_6 (by omega) (by omega)
          · exact key _ _ xchk_7 (by omega) (by omega)
      · by_cases h3 : k < 108
        · exact key _ _ xchk_8 (by omega) (by omega)
        · by_cases h4 : k < 120
          · exact key _ _ xchk_9 (by omega) (by omega)
          · exact key _ _ xchk_10 (by omega) (by omega)
  · by_cases h1 : k < 192
    · by_cases h2 : k < 156
      · by_cases h3 : k < 144
        · exact key _ _ xchk_11 (by omega) (by omega)
        · exact key _ _ xchk_12 (by omega) (by omega)
      · by_cases h3 : k < 168
        · exact key _ _ xchk_13 (by omega) (by omega)
        · by_cases h4 : k < 180
          · exact key _ _ xchk_14 (by omega) (by omega)
          · exact key _ _ xchk_15 (by omega) (by omega)
    · by_cases h2 : k < 228
      · by_cases h3 : k < 204
        · exact key _ _ xchk_16 (by omega) (by omega)
        · by_cases h4 : k < 216
          · exact key _ _ xchk_17 (by omega) (by omega)
          · exact key _ _ xchk_18 (by omega) (by omega)
      · by_cases h3 : k < 240
        · exact key _ _ xchk_19 (by omega) (by omega)
        · by_cases h4 : k < 252
          · exact key _ _ xchk_20 (by omega) (by omega)
          · exact key _ _ xchk_21 (by omega) (by omega)
theorem law_len : (xC 263).length ≤ 920 := by decide +kernel
theorem law_chunk {e : xE} {i : Nat} (a : Nat) (hi : (xC 263)[i]? = some e) (h1 : a ≤ i) (h2 : i < a + 40) (h : ((((xC 263).drop a).take 40).all (chkI 10 1 4) && (((xC 263).drop a).take 40).all (chkD code)) = true) : chkI 10 1 4 e = true ∧ chkD code e = true := by
  rw [Bool.and_eq_true] at h
  have hm : e ∈ ((xC 263).drop a).take 40 := by
    refine List.mem_of_getElem? (i := i - a) ?_
    rw [List.getElem?_take_of_lt (by omega), List.getElem?_drop, show a + (i - a) = i by omega]
    exact hi
  exact ⟨List.all_eq_true.mp h.1 e hm, List.all_eq_true.mp h.2 e hm⟩
theorem law_all {e : xE} (he : e ∈ xC 263) : chkI 10 1 4 e = true ∧ chkD code e = true := by
  obtain ⟨i, hi⟩ := List.mem_iff_getElem?.mp he
  have hlt : i < 920 := Nat.lt_of_lt_of_le (List.getElem?_eq_some_iff.mp hi).1 law_len
  by_cases h0 : i < 40
  · exact law_chunk 0 hi (by omega) (by omega) xlaw_0
  by_cases h1 : i < 80
  · exact law_chunk 40 hi (by omega) (by omega) xlaw_1
  by_cases h2 : i < 120
  · exact law_chunk 80 hi (by omega) (by omega) xlaw_2
  by_cases h3 : i < 160
  · exact law_chunk 120 hi (by omega) (by omega) xlaw_3
  by_cases h4 : i < 200
  · exact law_chunk 160 hi (by omega) (by omega) xlaw_4
  by_cases h5 : i < 240
  · exact law_chunk 200 hi (by omega) (by omega) xlaw_5
  by_cases h6 : i < 280
  · exact law_chunk 240 hi (by omega) (by omega) xlaw_6
  by_cases h7 : i < 320
  · exact law_chunk 280 hi (by omega) (by omega) xlaw_7
  by_cases h8 : i < 360
  · exact law_chunk 320 hi (by omega) (by omega) xlaw_8
  by_cases h9 : i < 400
  · exact law_chunk 360 hi (by omega) (by omega) xlaw_9
  by_cases h10 : i < 440
  · exact law_chunk 400 hi (by omega) (by omega) xlaw_10
  by_cases h11 : i < 480
  · exact law_chunk 440 hi (by omega) (by omega) xlaw_11
  by_cases h12 : i < 520
  · exact law_chunk 480 hi (by omega) (by omega) xlaw_12
  by_cases h13 : i < 560
  · exact law_chunk 520 hi (by omega) (by omega) xlaw_13
  by_cases h14 : i < 600
  · exact law_chunk 560 hi (by omega) (by omega) xlaw_14
  by_cases h15 : i < 640
  · exact law_chunk 600 hi (by omega) (by omega) xlaw_15
  by_cases h16 : i < 680
  · exact law_chunk 640 hi (by omega) (by omega) xlaw_16
  by_cases h17 : i < 720
  · exact law_chunk 680 hi (by omega) (by omega) xlaw_17
  by_cases h18 : i < 760
  · exact law_chunk 720 hi (by omega) (by omega) xlaw_18
  by_cases h19 : i < 800
  · exact law_chunk 760 hi (by omega) (by omega) xlaw_19
  by_cases h20 : i < 840
  · exact law_chunk 800 hi (by omega) (by omega) xlaw_20
  by_cases h21 : i < 880
  · exact law_chunk 840 hi (by omega) (by omega) xlaw_21
  by_cases h22 : i < 920
  · exact law_chunk 880 hi (by omega) (by omega) xlaw_22
  omega
set_option maxRecDepth 100000 in
theorem law_mts : mts[263]? = some (10, 1, ⟨"RouteStridesLaw", "law", "([I)Z"⟩, 4, some .boolean, 0, 0, 0, 0, 1) := by rfl
theorem xAll : ∀ (k : Nat) (t : xT), mts[k]? = some t → ∀ e ∈ xC k, chkI t.1 (bol t.2.2.2.2.1) t.2.2.2.1 e = true ∧ chkD (xcc k t) e = true := by
  intro k t ht e he
  have hlt : k < 264 := by
    have := (List.getElem?_eq_some_iff.mp ht).1
    rw [mts_len] at this
    exact this
  by_cases hk : k = 263
  · subst hk
    rw [law_mts] at ht
    cases ht
    exact law_all he
  · have h := xchk_all k (by omega)
    unfold xchk at h
    rw [ht] at h
    obtain ⟨own, st, y, ml, ret, pc, r⟩ := t
    rw [Bool.and_eq_true] at h
    have e1 : xcc k (own, st, y, ml, ret, pc, r) = xbyt pc := if_neg hk
    rw [e1]
    exact ⟨List.all_eq_true.mp h.1 e he, List.all_eq_true.mp h.2 e he⟩
/-- what the abstract run says, the machine does -/
theorem ru_sim {SH : xSH} {G : xG} {cA : Nat → ClassId} {D : va_G} {A : Nat → Prop} {Ls : Nat} {xs : Nat → Int32} {l : Launch} {d k pc : Nat} {L S : List xV} {M : xM} {Q : xQ} (h : Ru d k pc L S M Q) : xSim SH G cA D A Ls xs l d k pc L S M Q := h _ (xSim_closed xAll) xSim_mono

/-! THE FEWEST RULES are no more than the rules. -/
def rI (T : TB) (k : Nat) (v : Int) : Nat → Int
  | 0 => 0
  | n + 1 => rI T k v n + one1 ((v ≤ tV T n ∧ tV T n < v + 2 ^ k) ∧ 32 - (k : Int) < tL T n)
def rE (T : TB) (k : Nat) (v : Int) : Nat → Int
  | 0 => 0
  | n + 1 => rE T k v n + one1 (tV T n = v ∧ tL T n = 32 - (k : Int))
def ihp (T : TB) (k : Nat) (v : Int) : Nat → Int
  | 0 => -1
  | n + 1 => if inR T n v ∧ tL T n ≤ 32 - (k : Int) then tH T n else ihp T k v n
theorem one1_b (p : Prop) [Decidable p] : 0 ≤ one1 p ∧ one1 p ≤ 1 := by
  unfold one1
  split <;> omega
theorem rI_nn (T : TB) (k : Nat) (v : Int) : ∀ n : Nat, 0 ≤ rI T k v n
  | 0 => Int.le_refl _
  | n + 1 => by
    have := rI_nn T k v n
    have := one1_b ((v ≤ tV T n ∧ tV T n < v + 2 ^ k) ∧ 32 - (k : Int) < tL T n)
    unfold rI
    omega
theorem rE_nn (T : TB) (k : Nat) (v : Int) : ∀ n : Nat, 0 ≤ rE T k v n
  | 0 => Int.le_refl _
  | n + 1 => by
    have := rE_nn T k v n
    have := one1_b (tV T n = v ∧ tL T n = 32 - (k : Int))
    unfold rE
    omega
theorem wd_k {k : Nat} {L : Int} (h : L = 32 - (k : Int)) : wd L = 2 ^ k := by
  unfold wd
  rw [show (32 - L).toNat = k by omega]
theorem two_s (k : Nat) : (2 : Int) ^ (k + 1) = 2 * 2 ^ k ∧ (0 : Int) < 2 ^ k := ⟨by rw [Int.pow_succ, Int.mul_comm], Int.pow_pos (by decide)⟩
theorem mod_half {k : Nat} {v : Int} (h : v % 2 ^ (k + 1) = 0) : v % 2 ^ k = 0 ∧ (v + 2 ^ k) % 2 ^ k = 0 := by
  have h1 : v % 2 ^ k = 0 := mod_dvd h (pow_dvd (by omega))
  refine ⟨h1, ?_⟩
  rw [Int.add_emod_right]
  exact h1
theorem modpos {x A : Int} (hA : 0 < A) (h : x % A = 0) (h2 : -A < x) : 0 ≤ x := by
  obtain ⟨c, rfl⟩ := Int.dvd_of_emod_eq_zero h
  have h3 : A * (-1) < A * c := by omega
  have h4 := Int.lt_of_mul_lt_mul_left h3 (Int.le_of_lt hA)
  exact Int.mul_nonneg (Int.le_of_lt hA) (by omega)
section FewBound
variable {T : TB}
theorem rI_split (hw : tWF T) {k : Nat} {v : Int} (hk : k + 1 ≤ 32) (hv : v % 2 ^ (k + 1) = 0) : ∀ n : Nat, (n : Int) ≤ tN T → rI T (k + 1) v n = rI T k v n + rE T k v n + rI T k (v + 2 ^ k) n + rE T k (v + 2 ^ k) n
  | 0, _ => rfl
  | n + 1, hn => by
    have ih := rI_split hw hk hv n (by omega)
    obtain ⟨hV, hL, hVL, -⟩ := hw.2.1 n (by omega) (by omega)
    obtain ⟨p1, p2⟩ := two_s k
    obtain ⟨m1, m2⟩ := mod_half hv
    have key : one1 ((v ≤ tV T n ∧ tV T n < v + 2 ^ (k + 1)) ∧ 32 - ((k + 1 : Nat) : Int) < tL T n) = one1 ((v ≤ tV T n ∧ tV T n < v + 2 ^ k) ∧ 32 - (k : Int) < tL T n) + one1 (tV T n = v ∧ tL T n = 32 - (k : Int)) + one1 (((v + 2 ^ k) ≤ tV T n ∧ tV T n < (v + 2 ^ k) + 2 ^ k) ∧ 32 - (k : Int) < tL T n) + one1 (tV T n = v + 2 ^ k ∧ tL T n = 32 - (k : Int)) := by
      have hVP : tL T n = 32 - (k : Int) → tV T n % 2 ^ k = 0 := fun e => by rw [← wd_k e]; exact hVL
      generalize (2 : Int) ^ k = P at *
      rw [p1]
      rcases (show tL T n < 32 - (k : Int) ∨ tL T n = 32 - (k : Int) ∨ 32 - (k : Int) < tL T n by omega) with e | e | e
      · rw [one1_n (by omega), one1_n (by omega), one1_n (by omega), one1_n (by omega), one1_n (by omega)]; rfl
      · have hVP := hVP e
        by_cases e2 : v ≤ tV T n ∧ tV T n < v + 2 * P
        · rw [one1_p (by omega), one1_n (by omega), one1_n (p := (_ ∧ _) ∧ 32 - (k : Int) < tL T n) (by omega)]
          by_cases e3 : tV T n < v + P
          · have e4 := blk m1 e2.1 e3
            rw [one1_p (by omega), one1_n (by omega)]; rfl
          · have e4 := blk m2 (a := tV T n) (by omega) (by omega)
            rw [one1_n (by omega), one1_p (by omega)]; rfl
        · rw [one1_n (by omega), one1_n (by omega), one1_n (by omega), one1_n (by omega), one1_n (by omega)]; rfl
      · by_cases e2 : v ≤ tV T n ∧ tV T n < v + 2 * P
        · rw [one1_p (by omega), one1_n (p := tV T n = v ∧ _) (by omega), one1_n (p := tV T n = v + P ∧ _) (by omega)]
          by_cases e3 : tV T n < v + P
          · rw [one1_p (by omega), one1_n (by omega)]; rfl
          · rw [one1_n (by omega), one1_p (by omega)]; rfl
        · rw [one1_n (by omega), one1_n (by omega), one1_n (by omega), one1_n (by omega), one1_n (by omega)]; rfl
    show rI T (k + 1) v n + _ = (rI T k v n + _) + (rE T k v n + _) + (rI T k (v + 2 ^ k) n + _) + (rE T k (v + 2 ^ k) n + _)
    rw [ih, key]
    omega
theorem rE_0 {k : Nat} {v : Int} {n : Nat} (h : rE T k v (n + 1) = 0) : rE T k v n = 0 ∧ ¬ (tV T n = v ∧ tL T n = 32 - (k : Int)) := by
  have h1 := rE_nn T k v n
  have h2 := one1_b (tV T n = v ∧ tL T n = 32 - (k : Int))
  have h3 : rE T k v n + one1 (tV T n = v ∧ tL T n = 32 - (k : Int)) = 0 := h
  refine ⟨by omega, fun z => ?_⟩
  rw [one1_p z] at h3
  omega
theorem rI_0 {k : Nat} {v : Int} {n : Nat} (h : rI T k v (n + 1) = 0) : rI T k v n = 0 ∧ ¬ ((v ≤ tV T n ∧ tV T n < v + 2 ^ k) ∧ 32 - (k : Int) < tL T n) := by
  have h1 := rI_nn T k v n
  have h2 := one1_b ((v ≤ tV T n ∧ tV T n < v + 2 ^ k) ∧ 32 - (k : Int) < tL T n)
  have h3 : rI T k v n + one1 ((v ≤ tV T n ∧ tV T n < v + 2 ^ k) ∧ 32 - (k : Int) < tL T n) = 0 := h
  refine ⟨by omega, fun z => ?_⟩
  rw [one1_p z] at h3
  omega
theorem ihp_l (hw : tWF T) {k : Nat} {v : Int} (hv : v % 2 ^ k = 0) : ∀ n : Nat, (n : Int) ≤ tN T → rE T k v n = 0 → ihp T k v n = ihp T (k + 1) v n
  | 0, _, _ => rfl
  | n + 1, hn, h => by
    obtain ⟨h1, h2⟩ := rE_0 h
    have ih := ihp_l hw hv n (by omega) h1
    obtain ⟨hV, hL, hVL, -⟩ := hw.2.1 n (by omega) (by omega)
    show (if inR T n v ∧ tL T n ≤ 32 - (k : Int) then tH T n else ihp T k v n) = if inR T n v ∧ tL T n ≤ 32 - ((k + 1 : Nat) : Int) then tH T n else ihp T (k + 1) v n
    rw [ih]
    by_cases e : inR T n v ∧ tL T n ≤ 32 - ((k + 1 : Nat) : Int)
    · rw [if_pos e, if_pos ⟨e.1, by omega⟩]
    · rw [if_neg e, if_neg (fun z => ?_)]
      have e2 : tL T n = 32 - (k : Int) := by
        refine Classical.byContradiction fun z2 => e ⟨z.1, ?_⟩
        have := z.2
        omega
      have e3 := wd_k e2
      obtain ⟨z1, z2⟩ := z.1
      rw [e3] at z2 hVL
      have := blk hVL z1 z2
      exact h2 ⟨by omega, e2⟩
theorem ihp_r (hw : tWF T) {k : Nat} {v : Int} (hk : k + 1 ≤ 32) (hv : v % 2 ^ (k + 1) = 0) : ∀ n : Nat, (n : Int) ≤ tN T → rE T k (v + 2 ^ k) n = 0 → ihp T k (v + 2 ^ k) n = ihp T (k + 1) v n
  | 0, _, _ => rfl
  | n + 1, hn, h => by
    obtain ⟨h1, h2⟩ := rE_0 h
    have ih := ihp_r hw hk hv n (by omega) h1
    obtain ⟨hV, hL, hVL, -⟩ := hw.2.1 n (by omega) (by omega)
    obtain ⟨p1, p2⟩ := two_s k
    show (if inR T n (v + 2 ^ k) ∧ tL T n ≤ 32 - (k : Int) then tH T n else ihp T k (v + 2 ^ k) n) = if inR T n v ∧ tL T n ≤ 32 - ((k + 1 : Nat) : Int) then tH T n else ihp T (k + 1) v n
    rw [ih]
    by_cases e : tL T n ≤ 32 - ((k + 1 : Nat) : Int)
    · have hd : (2 : Int) ^ (k + 1) ∣ wd (tL T n) := by
        unfold wd
        exact pow_dvd (by omega)
      have hVm : tV T n % 2 ^ (k + 1) = 0 := mod_dvd hVL hd
      have hwm : wd (tL T n) % 2 ^ (k + 1) = 0 := Int.emod_eq_zero_of_dvd hd
      have d1 : (v - tV T n) % 2 ^ (k + 1) = 0 := by rw [Int.sub_emod, hv, hVm]; rfl
      have d2 : (tV T n + wd (tL T n) - v) % 2 ^ (k + 1) = 0 := by rw [Int.sub_emod, Int.add_emod, hVm, hwm, hv]; rfl
      have i1 : inR T n (v + 2 ^ k) ↔ inR T n v := by
        constructor
        · intro z
          have := modpos (by omega) d1 (by have := z.1; omega)
          exact ⟨by omega, by have := z.2; omega⟩
        · intro z
          refine ⟨by have := z.1; omega, ?_⟩
          have h9 : 0 ≤ tV T n + wd (tL T n) - v - 2 ^ (k + 1) := by
            refine modpos (A := 2 ^ (k + 1)) (by omega) ?_ (by have := z.2; omega)
            rw [Int.sub_emod, d2, Int.emod_self]; rfl
          omega
      by_cases e2 : inR T n v
      · rw [if_pos ⟨i1.mpr e2, by omega⟩, if_pos ⟨e2, e⟩]
      · rw [if_neg (fun z => e2 (i1.mp z.1)), if_neg (fun z => e2 z.1)]
    · rw [if_neg (c := inR T n v ∧ _) (fun z => e z.2), if_neg (fun z => ?_)]
      have e2 : tL T n = 32 - (k : Int) := by have := z.2; omega
      have e3 := wd_k e2
      obtain ⟨z1, z2⟩ := z.1
      rw [e3] at z2 hVL
      have h5 := blk hVL z1 z2
      have h6 := (mod_half hv).2
      exact h2 ⟨by omega, e2⟩
theorem ihp_f (hw : tWF T) {k : Nat} {v : Int} (hk : k ≤ 32) (hv : v % 2 ^ k = 0) : ∀ n : Nat, (n : Int) ≤ tN T → rI T k v n = 0 → ihp T k v n = if rlB T v (-1) n = -1 then -1 else tH T (rlB T v (-1) n)
  | 0, _, _ => rfl
  | n + 1, hn, h => by
    obtain ⟨h1, h2⟩ := rI_0 h
    have ih := ihp_f hw hk hv n (by omega) h1
    obtain ⟨hV, hL, hVL, -⟩ := hw.2.1 n (by omega) (by omega)
    show (if inR T n v ∧ tL T n ≤ 32 - (k : Int) then tH T n else ihp T k v n) = if (if inR T n v ∧ ¬ (n : Int) = -1 then (n : Int) else rlB T v (-1) n) = -1 then -1 else tH T (if inR T n v ∧ ¬ (n : Int) = -1 then (n : Int) else rlB T v (-1) n)
    by_cases e : inR T n v
    · have key : tL T n ≤ 32 - (k : Int) := by
        refine Classical.byContradiction fun z => h2 ?_
        have hd : wd (tL T n) ∣ (2 : Int) ^ k := by
          unfold wd
          exact pow_dvd (by omega)
        have h3 := mod_dvd hv hd
        have h4 := blk hVL e.1 e.2
        have h5 := (two_s k).2
        exact ⟨⟨by omega, by omega⟩, by omega⟩
      rw [if_pos (c := inR T n v ∧ ¬ (n : Int) = -1) ⟨e, by omega⟩, if_neg (c := (n : Int) = -1) (by omega), if_pos ⟨e, key⟩]
    · rw [if_neg (c := inR T n v ∧ ¬ (n : Int) = -1) (fun z => e z.1), if_neg (fun z => e z.1)]
      exact ih
theorem few_lo (hw : tWF T) : ∀ (k : Nat) (v : Int), k ≤ 32 → v % 2 ^ k = 0 → cc T k v + nm (fS T k v) (ihp T k v (tN T).toNat) ≤ rI T k v (tN T).toNat
  | 0, v, hk, hv => by
    have h0 := rI_nn T 0 v (tN T).toNat
    have hn := hw.1
    show 0 + nm (fS T 0 v) (ihp T 0 v (tN T).toNat) ≤ _
    by_cases e : rI T 0 v (tN T).toNat = 0
    · have h1 := ihp_f hw hk hv (tN T).toNat (by omega) e
      have h2 : ihp T 0 v (tN T).toNat = hp T v := h1
      have hb := hp_b hw v
      rw [h2, nm_y (by show tb (lshl 1 (hp T v + 1)) (hp T v + 1).toNat = true; rw [tb_1 hb.1 (by omega)]; exact decide_eq_true rfl)]
      omega
    · have := (nm_b (fS T 0 v) (ihp T 0 v (tN T).toNat)).2
      omega
  | k + 1, v, hk, hv => by
    have hn := hw.1
    have hI := rI_nn T (k + 1) v (tN T).toNat
    cases hl : lfb T v (2 ^ (k + 1)) with
    | true =>
      have e0 : cc T (k + 1) v = 0 := by
        show (if lfb T v (2 ^ (k + 1)) = true then (0 : Int) else _) = 0
        rw [if_pos hl]
      rw [e0]
      by_cases e : rI T (k + 1) v (tN T).toNat = 0
      · have h2 : ihp T (k + 1) v (tN T).toNat = hp T v := ihp_f hw hk hv (tN T).toNat (by omega) e
        have hb := hp_b hw v
        rw [h2, fS_leaf hl, nm_y (by show tb (lshl 1 (hp T v + 1)) (hp T v + 1).toNat = true; rw [tb_1 hb.1 (by omega)]; exact decide_eq_true rfl)]
        omega
      · have := (nm_b (fS T (k + 1) v) (ihp T (k + 1) v (tN T).toNat)).2
        omega
    | false =>
      obtain ⟨m1, m2⟩ := mod_half hv
      have a := few_lo hw k v (by omega) m1
      have b := few_lo hw k (v + 2 ^ k) (by omega) m2
      have hs := rI_split hw hk hv (tN T).toNat (by omega)
      have el := ihp_l hw m1 (tN T).toNat (by omega)
      have er := ihp_r hw hk hv (tN T).toNat (by omega)
      have nl := rE_nn T k v (tN T).toNat
      have nr := rE_nn T k (v + 2 ^ k) (tN T).toNat
      have e0 : cc T (k + 1) v = cc T k v + cc T k (v + 2 ^ k) + if land (fS T k v) (fS T k (v + 2 ^ k)) = 0 then 1 else 0 := by
        show (if lfb T v (2 ^ (k + 1)) = true then (0 : Int) else _) = _
        rw [hl, if_neg (by decide)]
      generalize ihp T (k + 1) v (tN T).toNat = x at el er ⊢
      have a2 : cc T k v + nm (fS T k v) x ≤ rI T k v (tN T).toNat + rE T k v (tN T).toNat := by
        by_cases e : rE T k v (tN T).toNat = 0
        · rw [el e] at a; omega
        · have := (nm_b (fS T k v) x).2
          have := (nm_b (fS T k v) (ihp T k v (tN T).toNat)).1
          omega
      have b2 : cc T k (v + 2 ^ k) + nm (fS T k (v + 2 ^ k)) x ≤ rI T k (v + 2 ^ k) (tN T).toNat + rE T k (v + 2 ^ k) (tN T).toNat := by
        by_cases e : rE T k (v + 2 ^ k) (tN T).toNat = 0
        · rw [er e] at b; omega
        · have := (nm_b (fS T k (v + 2 ^ k)) x).2
          have := (nm_b (fS T k (v + 2 ^ k)) (ihp T k (v + 2 ^ k) (tN T).toNat)).1
          omega
      have c1 := nm_b (fS T k v) x
      have c2 := nm_b (fS T k (v + 2 ^ k)) x
      rw [e0, hs]
      by_cases h2 : land (fS T k v) (fS T k (v + 2 ^ k)) = 0
      · rw [if_pos h2, fS_or hl h2]
        by_cases x1 : me (fS T k v) x
        · have x2 : ¬ me (fS T k (v + 2 ^ k)) x := fun z => me_0 h2 x1 z
          rw [nm_y (me_lor.mpr (Or.inl x1))]
          rw [nm_n x2] at b2
          omega
        · rw [nm_n x1] at a2
          by_cases x2 : me (fS T k (v + 2 ^ k)) x
          · rw [nm_y (me_lor.mpr (Or.inr x2))]
            omega
          · rw [nm_n x2] at b2
            have := (nm_b (lor (fS T k v) (fS T k (v + 2 ^ k))) x).2
            omega
      · rw [if_neg h2, fS_and hl h2]
        by_cases x1 : me (fS T k v) x
        · by_cases x2 : me (fS T k (v + 2 ^ k)) x
          · rw [nm_y (me_land.mpr ⟨x1, x2⟩)]
            omega
          · rw [nm_n x2] at b2
            have := (nm_b (land (fS T k v) (fS T k (v + 2 ^ k))) x).2
            omega
        · rw [nm_n x1] at a2
          have := (nm_b (land (fS T k v) (fS T k (v + 2 ^ k))) x).2
          omega
theorem few_all (hw : tWF T) : ∀ n : Nat, (n : Int) ≤ tN T → rI T 32 0 n + rE T 32 0 n = n ∧ (rE T 32 0 n = 0 → ihp T 32 0 n = -1)
  | 0, _ => ⟨rfl, fun _ => rfl⟩
  | n + 1, hn => by
    obtain ⟨h1, h2⟩ := few_all hw n (by omega)
    obtain ⟨hV, hL, hVL, -⟩ := hw.2.1 n (by omega) (by omega)
    have e32 : (2 : Int) ^ 32 = 4294967296 := by decide
    constructor
    · show rI T 32 0 n + one1 ((0 ≤ tV T n ∧ tV T n < 0 + 2 ^ 32) ∧ 32 - ((32 : Nat) : Int) < tL T n) + (rE T 32 0 n + one1 (tV T n = 0 ∧ tL T n = 32 - ((32 : Nat) : Int))) = _
      rw [e32]
      by_cases e : tL T n = 0
      · rw [e, wd_0] at hVL
        rw [one1_n (by omega), one1_p (by omega)]
        omega
      · rw [one1_p (by omega), one1_n (by omega)]
        omega
    · intro h
      obtain ⟨h3, h4⟩ := rE_0 h
      show (if inR T n 0 ∧ tL T n ≤ 32 - ((32 : Nat) : Int) then tH T n else ihp T 32 0 n) = -1
      rw [if_neg (fun z => ?_)]
      · exact h2 h3
      · have h5 : tL T n = 0 := by have := z.2; omega
        have h6 := z.1.1
        exact h4 ⟨by omega, by omega⟩
/-- no more than the rules -/
theorem few_len (hw : tWF T) : ((fL T 32 0 (-1)).length : Int) ≤ tN T := by
  have hn := hw.1
  have h1 := few_lo hw 32 0 (Nat.le_refl _) (Int.zero_emod _)
  obtain ⟨h2, h3⟩ := few_all hw (tN T).toNat (by omega)
  rw [fL_len hw]
  by_cases e : rE T 32 0 (tN T).toNat = 0
  · rw [h3 e] at h1
    omega
  · have := rE_nn T 32 0 (tN T).toNat
    have := (nm_b (fS T 32 0) (-1)).2
    have := (nm_b (fS T 32 0) (ihp T 32 0 (tN T).toNat)).1
    omega
end FewBound

/-! THE FEWEST SLOTS, as numbers: -1 is none. -/
def sw5 (c g : Int → Int) (b s : Int) : Int := if 32 < b + s then -1 else if g (b + s) = -1 then -1 else c b * 2 ^ s.toNat + g (b + s)
def mE (a x : Int) : Int := if x = -1 then a else if a = -1 then x else if x < a then x else a
def bs5 (c g : Int → Int) (b : Int) : Nat → Int
  | 0 => -1
  | k + 1 => mE (bs5 c g b k) (sw5 c g b (k + 2))
def sl (c : Int → Int) : Nat → Int → Int
  | 0 => fun b => if b = 32 then 0 else -1
  | l + 1 => fun b => bs5 c (sl c l) b 5
def cLo (c : Int → Int) : Prop := ∀ b : Int, 0 ≤ c b ∧ c b ≤ 120
theorem p2_6 {s : Int} (s0 : 2 ≤ s) (s1 : s ≤ 6) : s = 2 ∨ s = 3 ∨ s = 4 ∨ s = 5 ∨ s = 6 := by omega
theorem c_p2 {c s : Int} (h0 : 0 ≤ c) (h1 : c ≤ 120) (s0 : 2 ≤ s) (s1 : s ≤ 6) : 0 ≤ c * 2 ^ s.toNat ∧ c * 2 ^ s.toNat ≤ 7680 := by
  rcases p2_6 s0 s1 with e | e | e | e | e <;> subst e
  · show 0 ≤ c * 4 ∧ c * 4 ≤ 7680; omega
  · show 0 ≤ c * 8 ∧ c * 8 ≤ 7680; omega
  · show 0 ≤ c * 16 ∧ c * 16 ≤ 7680; omega
  · show 0 ≤ c * 32 ∧ c * 32 ≤ 7680; omega
  · show 0 ≤ c * 64 ∧ c * 64 ≤ 7680; omega
theorem sw5_b {c g : Int → Int} {b s B : Int} (hc : cLo c) (hg : ∀ x : Int, g x = -1 ∨ (0 ≤ g x ∧ g x ≤ B)) (s0 : 2 ≤ s) (s1 : s ≤ 6) : sw5 c g b s = -1 ∨ (0 ≤ sw5 c g b s ∧ sw5 c g b s ≤ B + 7680) := by
  have h1 := c_p2 (hc b).1 (hc b).2 s0 s1
  unfold sw5
  split
  · exact Or.inl rfl
  · split
    · exact Or.inl rfl
    · rcases hg (b + s) with e | e <;> omega
theorem mE_b {a x B : Int} (ha : a = -1 ∨ (0 ≤ a ∧ a ≤ B)) (hx : x = -1 ∨ (0 ≤ x ∧ x ≤ B)) : mE a x = -1 ∨ (0 ≤ mE a x ∧ mE a x ≤ B) := by
  unfold mE
  split
  · exact ha
  · split
    · exact hx
    · split <;> omega
theorem bs5_b {c g : Int → Int} {b B : Int} (hc : cLo c) (hg : ∀ x : Int, g x = -1 ∨ (0 ≤ g x ∧ g x ≤ B)) : ∀ k : Nat, k ≤ 5 → bs5 c g b k = -1 ∨ (0 ≤ bs5 c g b k ∧ bs5 c g b k ≤ B + 7680)
  | 0, _ => Or.inl rfl
  | k + 1, hk => mE_b (bs5_b hc hg k (by omega)) (sw5_b hc hg (by omega) (by omega))
theorem sl_b {c : Int → Int} (hc : cLo c) : ∀ (l : Nat) (b : Int), sl c l b = -1 ∨ (0 ≤ sl c l b ∧ sl c l b ≤ 7680 * (l : Int))
  | 0, b => by
    show (if b = 32 then (0 : Int) else -1) = -1 ∨ _
    by_cases e : b = 32
    · right
      show 0 ≤ (if b = 32 then (0 : Int) else -1) ∧ (if b = 32 then (0 : Int) else -1) ≤ _
      rw [if_pos e]; omega
    · left; rw [if_neg e]
  | l + 1, b => by
    have h := bs5_b (b := b) hc (sl_b hc l) 5 (by omega)
    show bs5 c (sl c l) b 5 = -1 ∨ (0 ≤ bs5 c (sl c l) b 5 ∧ bs5 c (sl c l) b 5 ≤ _)
    rcases h with e | e
    · exact Or.inl e
    · exact Or.inr ⟨e.1, by omega⟩
theorem bs5_fin {c g : Int → Int} {b : Int} (hn : ∀ x : Int, -1 ≤ g x) (hc : cLo c) : ∀ k : Nat, k ≤ 5 → (bs5 c g b k = -1 ↔ ∀ s : Int, 2 ≤ s → s < k + 2 → sw5 c g b s = -1)
  | 0, _ => ⟨fun _ s s0 s1 => by omega, fun _ => rfl⟩
  | k + 1, hk => by
    have ih := bs5_fin (b := b) hn hc k (by omega)
    have h1 : -1 ≤ sw5 c g b (k + 2) := by
      have h2 := c_p2 (hc b).1 (hc b).2 (s := (k : Int) + 2) (by omega) (by omega)
      have h3 := hn (b + (k + 2))
      unfold sw5
      split
      · omega
      · split <;> omega
    show mE (bs5 c g b k) (sw5 c g b (k + 2)) = -1 ↔ _
    unfold mE
    constructor
    · intro h s s0 s1
      by_cases e : sw5 c g b (k + 2) = -1
      · rw [if_pos e] at h
        by_cases es : s = (k : Int) + 2
        · rw [es]; exact e
        · exact ih.mp h s s0 (by omega)
      · rw [if_neg e] at h
        by_cases e2 : bs5 c g b k = -1
        · rw [if_pos e2] at h; exact absurd h e
        · rw [if_neg e2] at h
          by_cases e3 : sw5 c g b (k + 2) < bs5 c g b k
          · rw [if_pos e3] at h; exact absurd h e
          · rw [if_neg e3] at h; exact absurd h e2
    · intro h
      rw [if_pos (h _ (by omega) (by omega))]
      exact ih.mpr (fun s s0 s1 => h s s0 (by omega))
/-- just so many levels reach the end -/
theorem sl_fin {c : Int → Int} (hc : cLo c) : ∀ (l : Nat) (b : Int), b ≤ 32 → (sl c l b = -1 ↔ ¬ (2 * (l : Int) ≤ 32 - b ∧ 32 - b ≤ 6 * (l : Int)))
  | 0, b, hb => by
    show (if b = 32 then (0 : Int) else -1) = -1 ↔ _
    by_cases e : b = 32
    · rw [if_pos e]; omega
    · rw [if_neg e]; omega
  | l + 1, b, hb => by
    have h1 := bs5_fin (c := c) (g := sl c l) (b := b) (fun x => by rcases sl_b hc l x with e | e <;> omega) hc 5 (by omega)
    show bs5 c (sl c l) b 5 = -1 ↔ _
    have key : ∀ s : Int, 2 ≤ s → s < 7 → (sw5 c (sl c l) b s = -1 ↔ 32 < b + s ∨ ¬ (2 * (l : Int) ≤ 32 - (b + s) ∧ 32 - (b + s) ≤ 6 * (l : Int))) := fun s s0 s1 => by
      unfold sw5
      by_cases e : 32 < b + s
      · rw [if_pos e]; exact ⟨fun _ => Or.inl e, fun _ => rfl⟩
      · rw [if_neg e]
        have ih := sl_fin hc l (b + s) (by omega)
        by_cases e2 : sl c l (b + s) = -1
        · rw [if_pos e2]
          exact ⟨fun _ => Or.inr (ih.mp e2), fun _ => rfl⟩
        · rw [if_neg e2]
          have h4 := c_p2 (hc b).1 (hc b).2 s0 (by omega)
          have h5 := sl_b hc l (b + s)
          constructor
          · intro h; omega
          · intro h
            rcases h with h | h
            · omega
            · exact absurd (ih.mpr h) e2
    rw [h1]
    constructor
    · intro h
      have a2 := (key 2 (by omega) (by omega)).mp (h 2 (by omega) (by omega))
      have a3 := (key 3 (by omega) (by omega)).mp (h 3 (by omega) (by omega))
      have a4 := (key 4 (by omega) (by omega)).mp (h 4 (by omega) (by omega))
      have a5 := (key 5 (by omega) (by omega)).mp (h 5 (by omega) (by omega))
      have a6 := (key 6 (by omega) (by omega)).mp (h 6 (by omega) (by omega))
      omega
    · intro h s s0 s1
      exact (key s s0 s1).mpr (by omega)
/-- the least stride by which the fewest are come to -/
theorem bs5_at {c g : Int → Int} {b : Int} : ∀ k : Nat, ¬ bs5 c g b k = -1 → ∃ s : Int, 2 ≤ s ∧ s < k + 2 ∧ sw5 c g b s = bs5 c g b k
  | 0, h => absurd rfl h
  | k + 1, h => by
    have ih := bs5_at (c := c) (g := g) (b := b) k
    have e : bs5 c g b (k + 1) = mE (bs5 c g b k) (sw5 c g b (k + 2)) := rfl
    rw [e] at h ⊢
    unfold mE at h ⊢
    by_cases e1 : sw5 c g b (k + 2) = -1
    · rw [if_pos e1] at h ⊢
      obtain ⟨s, s0, s1, s2⟩ := ih h
      exact ⟨s, s0, by omega, s2⟩
    · rw [if_neg e1] at h ⊢
      by_cases e2 : bs5 c g b k = -1
      · rw [if_pos e2] at h ⊢
        exact ⟨(k : Int) + 2, by omega, by omega, rfl⟩
      · rw [if_neg e2] at h ⊢
        by_cases e3 : sw5 c g b (k + 2) < bs5 c g b k
        · rw [if_pos e3] at h ⊢
          exact ⟨(k : Int) + 2, by omega, by omega, rfl⟩
        · rw [if_neg e3] at h ⊢
          obtain ⟨s, s0, s1, s2⟩ := ih h
          exact ⟨s, s0, by omega, s2⟩
def isSt (c : Int → Int) (l : Nat) (b s : Int) : Prop := (2 ≤ s ∧ s ≤ 6) ∧ sw5 c (sl c l) b s = sl c (l + 1) b ∧ ∀ j : Int, 2 ≤ j → j < s → ¬ sw5 c (sl c l) b j = sl c (l + 1) b
/-- digits: left levels, bits so far, digits so far: what comes out -/
def isDg (c : Int → Int) : Nat → Int → Int → Int → Prop
  | 0, _, x, y => y = x
  | l + 1, b, x, y => ∃ s : Int, isSt c l b s ∧ isDg c l (b + s) (z64 (z64 (x * 10) + s)) y
theorem isSt_u {c : Int → Int} {l : Nat} {b s t : Int} (h : isSt c l b s) (g : isSt c l b t) : s = t := by
  rcases (show s = t ∨ s < t ∨ t < s by omega) with e | e | e
  · exact e
  · exact absurd h.2.1 (g.2.2 s h.1.1 e)
  · exact absurd g.2.1 (h.2.2 t g.1.1 e)
theorem isDg_u {c : Int → Int} : ∀ (l : Nat) (b x y z : Int), isDg c l b x y → isDg c l b x z → y = z
  | 0, b, x, y, z, h, g => by
    have h1 : y = x := h
    have h2 : z = x := g
    rw [h1, h2]
  | l + 1, b, x, y, z, ⟨s, h1, h2⟩, ⟨t, g1, g2⟩ => by
    have e := isSt_u h1 g1
    subst e
    exact isDg_u l _ _ y z h2 g2
/-- so many levels are the best up to n -/
def bl (c : Int → Int) : Nat → Int
  | 0 => 6
  | k + 1 => if sl c (k + 7) 0 < sl c (bl c k).toNat 0 then (k : Int) + 7 else bl c k
theorem bl_b (c : Int → Int) : ∀ k : Nat, 6 ≤ bl c k ∧ bl c k ≤ (k : Int) + 6
  | 0 => ⟨Int.le_refl _, Int.le_refl _⟩
  | k + 1 => by
    have := bl_b c k
    unfold bl
    split <;> omega

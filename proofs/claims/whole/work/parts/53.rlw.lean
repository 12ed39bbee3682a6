-- PART: rounds, what the least ways are.
theorem hs_iff {w p : Nat} : ∀ n, hs w p n = true ↔ ∃ q, q < n ∧ w / 2 ^ q % 2 = 1 ∧ sub8 q p
  | 0 => ⟨fun q => Bool.noConfusion (show false = true from q), fun ⟨q, h, _⟩ => absurd h (Nat.not_lt_zero _)⟩
  | n + 1 => by
    rw [hs, Bool.or_eq_true, hs_iff n, Bool.and_eq_true, decide_eq_true_iff, decide_eq_true_iff]
    constructor
    · rintro (⟨q, h1, h2, h3⟩ | ⟨h1, ⟨h2, h3⟩, h4⟩)
      · exact ⟨q, by omega, h2, h3⟩
      · exact ⟨n, by omega, h1, h2, h3, h4⟩
    · rintro ⟨q, h1, h2, h3⟩
      by_cases e : q = n
      · subst e
        exact Or.inr ⟨h2, ⟨h3.1, h3.2.1⟩, h3.2.2⟩
      · exact Or.inl ⟨q, by omega, h2, h3⟩
theorem bit_lt {w i q : Nat} (hw : w < 2 ^ i) (hq : w / 2 ^ q % 2 = 1) : q < i := by
  rcases Nat.lt_or_ge q i with h | h
  · exact h
  · have : w < 2 ^ q := Nat.lt_of_lt_of_le hw (Nat.pow_le_pow_right (by omega) h)
    rw [Nat.div_eq_of_lt this] at hq
    exact absurd hq (by decide)
theorem lw_sub {R : Nat → Bool} : ∀ i q, lw R i / 2 ^ q % 2 = 1 → R q = true
  | 0, q, h => by
    rw [lw, Nat.zero_div] at h
    exact absurd h (by decide)
  | i + 1, q, h => by
    rw [lw] at h
    split at h
    · exact lw_sub i q h
    · split at h
      · rename_i hR
        rw [bit_add (lw_lt R i)] at h
        by_cases e : q = i
        · rw [e]
          exact hR
        · rw [if_neg e] at h
          exact lw_sub i q h
      · exact lw_sub i q h
theorem lw_min {R : Nat → Bool} : ∀ i p, p < i → R p = true → ∃ q, lw R i / 2 ^ q % 2 = 1 ∧ sub8 q p
  | 0, p, h, _ => absurd h (Nat.not_lt_zero _)
  | i + 1, p, h, hp => by
    by_cases z : hs (lw R i) i i = true
    · rw [lw, if_pos z]
      by_cases e : p = i
      · obtain ⟨q, _, h2, h3⟩ := (hs_iff i).mp z
        rw [e]
        exact ⟨q, h2, h3⟩
      · exact lw_min i p (by omega) hp
    · rw [lw, if_neg z]
      by_cases y : R i = true
      · rw [if_pos y]
        by_cases e : p = i
        · refine ⟨i, ?_, ?_⟩
          · rw [bit_add (lw_lt R i), if_pos rfl]
          · rw [e]
            exact ⟨Nat.le_refl _, Nat.le_refl _, Nat.le_refl _⟩
        · obtain ⟨q, h2, h3⟩ := lw_min i p (by omega) hp
          refine ⟨q, ?_, h3⟩
          have := bit_lt (lw_lt R i) h2
          rw [bit_add (lw_lt R i), if_neg (by omega)]
          exact h2
      · rw [if_neg y]
        by_cases e : p = i
        · rw [e] at hp
          exact absurd hp y
        · exact lw_min i p (by omega) hp
theorem lw_zero {R : Nat → Bool} : ∀ i, lw R i % 2 = 1 → lw R i = 1
  | 0, h => by
    rw [lw] at h
    exact absurd h (by decide)
  | 1, h => by
    have := lw_lt R 1
    rw [Nat.pow_one] at this
    omega
  | i + 2, h => by
    have ih := lw_zero (R := R) (i + 1)
    have hb : ∀ x, x / 2 ^ 0 % 2 = x % 2 := fun x => by rw [Nat.pow_zero, Nat.div_one]
    by_cases z : lw R (i + 1) % 2 = 1
    · have e := ih z
      have t : hs (lw R (i + 1)) (i + 1) (i + 1) = true := (hs_iff _).mpr ⟨0, by omega, by rw [e], by unfold sub8 b0 b1 b2; omega⟩
      rw [lw, if_pos t]
      exact e
    · exfalso
      rw [lw] at h
      split at h
      · exact z h
      · split at h
        · rw [← hb, bit_add (lw_lt R (i + 1)), if_neg (by omega), hb] at h
          exact z h
        · exact z h

-- PART: rounds, the least holds of the class.
theorem sub_all : ∀ i, i < 8 → ∀ p, p < 8 → ((nI i &&& (nI p ^^^ m1)) = nI 0 ↔ ((b0 i ≤ b0 p ∧ b1 i ≤ b1 p) ∧ b2 i ≤ b2 p)) := by decide +kernel
theorem hs_up {w p : Nat} : ∀ (n i : Nat), hs w p i = true → hs w p (i + n) = true
  | 0, _, h => h
  | n + 1, i, h => by
    rw [← Nat.add_assoc, hs, hs_up n i h, Bool.true_or]
theorem hs_0 {p : Nat} : ∀ i, hs 0 p i = false
  | 0 => rfl
  | i + 1 => by
    rw [hs, hs_0 i, Nat.zero_div, Bool.false_or]
    rfl
theorem bit_of {w i : Nat} (hw : w < 2147483648) (hi : i < 32) : (nI w >>> (nI i &&& nI 31)) &&& nI 1 = nI (w / 2 ^ i % 2) := by
  rw [nI_shr hw hi, nI_and, Nat.and_one_is_mod, Nat.shiftRight_eq_div_pow]
section Rleast
variable {L : Nat}
theorem m84_loop {d w p : Nat} (hw : w < 256) (hp : p < 8) {h : PH} : ∀ (n i : Nat), i + n = p → hs w p i = false → runL (g2 L) d 6 false (some .boolean) kc_84 8 [.int (nI w), .int (nI p), .int (nI i)] [] h = some (some (.int (bI (hs w p p = true))), h) := by
  intro n
  induction n with
  | zero =>
    intro i hi hh
    have : i = p := by omega
    subst this
    rw [e84_8, if_pos (by rw [nI_leN (by omega) (by omega)]; omega), bI_f (by rw [hh]; decide)]
  | succ n ih =>
    intro i hi hh
    rw [e84_8, if_neg (by rw [nI_leN (by omega) (by omega)]; omega), bit_of (by omega) (by omega)]
    have hb : w / 2 ^ i % 2 < 2 := Nat.mod_lt _ (by omega)
    by_cases z : w / 2 ^ i % 2 = 1
    · rw [z, if_neg (by decide)]
      by_cases y : (b0 i ≤ b0 p ∧ b1 i ≤ b1 p) ∧ b2 i ≤ b2 p
      · rw [if_neg (fun q => q ((sub_all i (by omega) p hp).mpr y))]
        have e : hs w p (i + 1) = true := by
          rw [hs, hh, decide_eq_true z, decide_eq_true y]
          rfl
        have := hs_up n (i + 1) e
        rw [show i + 1 + n = p by omega] at this
        rw [bI_t this]
      · rw [if_pos (fun q => y ((sub_all i (by omega) p hp).mp q)), nI_plus]
        refine ih (i + 1) (by omega) ?_
        rw [hs, hh, decide_eq_false y, Bool.and_false]
        rfl
    · rw [show w / 2 ^ i % 2 = 0 by omega, if_pos rfl, nI_plus]
      refine ih (i + 1) (by omega) ?_
      rw [hs, hh, decide_eq_false z]
      rfl
theorem m84 (d : Nat) {w p : Nat} (hw : w < 256) (hp : p < 8) (h : PH) : exec (g2 L) (d + 1) 84 [.int (nI w), .int (nI p)] h = some (some (.int (bI (hs w p p = true))), h) := by
  by_cases z : w = 0
  · subst z
    rw [x84, if_neg (fun q => q rfl), bI_f (by rw [hs_0]; decide)]
  · rw [x84, if_pos (by rw [Ne, nI_eqI (by omega) (by omega)]; exact z)]
    exact m84_loop hw hp p 0 (by omega) rfl
end Rleast
/-- the ways of which none holds in more rounds than another -/
def lw (R : Nat → Bool) : Nat → Nat
  | 0 => 0
  | i + 1 => if hs (lw R i) i i = true then lw R i else if R i = true then lw R i + 2 ^ i else lw R i
theorem lw_lt (R : Nat → Bool) : ∀ i, lw R i < 2 ^ i
  | 0 => Nat.zero_lt_one
  | i + 1 => by
    have := lw_lt R i
    rw [lw, Nat.pow_succ]
    split
    · omega
    · split <;> omega
theorem far_add (sk bo c a : Nat) : ∀ b, far sk bo c (a + b) = far sk bo c a + far sk bo (c + a) b
  | 0 => rfl
  | b + 1 => by
    have e1 : far sk bo c (a + (b + 1)) = far sk bo c (a + b) + gn sk bo (c + (a + b) + 1) := rfl
    have e2 : far sk bo (c + a) (b + 1) = far sk bo (c + a) b + gn sk bo (c + a + b + 1) := rfl
    rw [e1, e2, far_add sk bo c a b, show c + (a + b) + 1 = c + a + b + 1 by omega]
    omega
/-- the pulses that do something in the rounds -/
def rA (A l : Nat → Nat) (d p : Nat) : Nat → Nat
  | 0 => 0
  | r + 1 => if p / 2 ^ r % 2 = 1 ∨ l r = 0 then rA A l d p r else rA A l d p r + tk (A (40 + 8 * d + 1)) (rS A l d p r).2.1 ((A 1 + bg l r) % 2) (l r)
theorem rS_rA {A l : Nat → Nat} {d p : Nat} (h2 : A (40 + 8 * d + 2) < 720) : ∀ r, (rS A l d p r).1 = (A (40 + 8 * d + 2) + far (A (40 + 8 * d + 5)) (A (40 + 8 * d + 6)) (A (40 + 8 * d + 4)) (rA A l d p r)) % 720 ∧ (rS A l d p r).2.2 = A (40 + 8 * d + 4) + rA A l d p r
  | 0 => by
    constructor
    · show A (40 + 8 * d + 2) = (A (40 + 8 * d + 2) + 0) % 720
      omega
    · rfl
  | r + 1 => by
    obtain ⟨i1, i2⟩ := rS_rA (l := l) (p := p) h2 r
    rw [rS, rA]
    by_cases z : p / 2 ^ r % 2 = 1
    · rw [if_pos z, if_pos (Or.inl z)]
      exact ⟨i1, i2⟩
    · rw [if_neg z]
      unfold go
      by_cases y : l r = 0
      · rw [if_pos y, if_pos (Or.inr y)]
        exact ⟨i1, i2⟩
      · rw [if_neg y, if_neg (fun q => q.elim z y)]
        constructor
        · show ((rS A l d p r).1 + far _ _ (rS A l d p r).2.2 _) % 720 = _
          rw [i1, i2, far_add]
          omega
        · show (rS A l d p r).2.2 + _ = _
          rw [i2]
          omega

-- PART: rounds, leastHolds.
theorem or_add {a i : Nat} (h : a < 2 ^ i) : a ||| 2 ^ i = a + 2 ^ i := by
  have := Nat.two_pow_add_eq_or_of_lt h 1
  rw [Nat.mul_one] at this
  rw [Nat.or_comm, ← this, Nat.add_comm]
section Rleast2
variable {L : Nat} {A l : Nat → Nat}
theorem m83_loop {d k r q e : Nat} {h : PH} (hV : VW A q) (hC : RC h 0 A) (hk : k < rn A) (hr : r ≤ 3) (hG : GS h A) (h9 : ∀ i, i < 3 → hI h 199 i = nI (l i)) (hl : ∀ i, 1 ≤ l i ∧ l i ≤ 30) (he : e ≤ 8) (x3 : Int32) : ∀ (n i : Nat), i + n = e → runL (g2 L) (d + 1) 6 false (some .int) kc_83 19 [.ref 163, .int (nI k), .int (nI r), .int x3, .int (nI (lw (fun p => decide ((rS A l (rd A k) p r).1 = A 0 % 720)) i)), .int (nI e), .int (nI i)] [] h = some (some (.int (nI (lw (fun p => decide ((rS A l (rd A k) p r).1 = A 0 % 720)) e))), h) := by
  intro n
  induction n with
  | zero =>
    intro i hi
    have : i = e := by omega
    subst this
    rw [e83_19, if_pos (by rw [nI_leN (by omega) (by omega)]; omega)]
  | succ n ih =>
    intro i hi
    have e1 := ih (i + 1) (by omega)
    have hlt := lw_lt (fun p => decide ((rS A l (rd A k) p r).1 = A 0 % 720)) i
    have hp : 2 ^ i ≤ 2 ^ 7 := Nat.pow_le_pow_right (by omega) (by omega)
    have hp' : (2 : Nat) ^ 7 = 128 := rfl
    rw [lw] at e1
    rw [e83_19, if_neg (by rw [nI_leN (by omega) (by omega)]; omega), m84 d (by omega) (by omega), cI_s]
    by_cases z : hs (lw (fun p => decide ((rS A l (rd A k) p r).1 = A 0 % 720)) i) i i = true
    · rw [if_pos z] at e1
      rw [if_pos (bI_nz.mpr z), nI_plus]
      exact e1
    · rw [if_neg z] at e1
      rw [if_neg (fun q => z (bI_nz.mp q)), m85 d hV hC hk (by omega) hr hG h9 hl, cI_s, shl1 (by omega), nI_or, or_add hlt, nI_plus]
      by_cases y : (rS A l (rd A k) i r).1 = A 0 % 720
      · rw [if_pos (decide_eq_true y)] at e1
        rw [bI_t y, if_neg (by decide)]
        exact e1
      · rw [if_neg (by rw [decide_eq_false y]; decide)] at e1
        rw [bI_f y, if_pos rfl]
        exact e1
theorem m83 (d : Nat) {k r q H : Nat} {h : PH} (hV : VW A q) (hC : RC h 0 A) (hk : k < rn A) (hr : r ≤ 3) (hH : H ≤ 15) (hG : GS h A) (h9 : ∀ i, i < 3 → hI h 199 i = nI (l i)) (hl : ∀ i, 1 ≤ l i ∧ l i ≤ 30) : exec (g2 L) (d + 2) 83 [.ref 163, .int (nI k), .int (nI r), .int (nI H)] h = some (some (.int (nI (lw (fun p => decide ((rS A l (rd A k) p r).1 = A 0 % 720)) (if H = 0 then 1 else 2 ^ r)))), h) := by
  have h8 := pow_le8 hr
  by_cases z : H = 0
  · rw [x83, if_neg (by rw [z]; exact fun q => q rfl), if_pos z]
    exact m83_loop hV hC hk hr hG h9 hl (by omega) (nI H) 1 0 (by omega)
  · rw [x83, if_pos (by rw [Ne, nI_eqI (by omega) (by omega)]; exact z), if_neg z, shl1 (by omega)]
    exact m83_loop hV hC hk hr hG h9 hl h8 (nI H) (2 ^ r) 0 (by omega)
end Rleast2
/-- the bits of the least ways -/
theorem bit_add {w i j : Nat} (hw : w < 2 ^ i) : (w + 2 ^ i) / 2 ^ j % 2 = if j = i then 1 else w / 2 ^ j % 2 := by
  have h1 : (w + 2 ^ i).testBit j = if j = i then true else w.testBit j := by
    rw [Nat.add_comm]
    by_cases e : j = i
    · subst e
      rw [if_pos rfl, Nat.testBit_two_pow_add_eq, Nat.testBit_lt_two_pow hw]
      rfl
    · rw [if_neg e]
      rcases Nat.lt_or_gt_of_ne e with q | q
      · rw [Nat.testBit_two_pow_add_gt q]
      · have a1 : 2 ^ i + w < 2 ^ j := by
          have : 2 ^ (i + 1) ≤ 2 ^ j := Nat.pow_le_pow_right (by omega) q
          rw [Nat.pow_succ] at this
          omega
        rw [Nat.testBit_lt_two_pow a1, Nat.testBit_lt_two_pow (by omega)]
  have key : ∀ x : Nat, x / 2 ^ j % 2 = if x.testBit j then 1 else 0 := by
    intro x
    rw [Nat.testBit_eq_decide_div_mod_eq]
    by_cases q : x / 2 ^ j % 2 = 1
    · rw [if_pos (decide_eq_true q), q]
    · rw [if_neg (by rw [decide_eq_false q]; decide)]
      omega
  rw [key, key, h1]
  by_cases e : j = i
  · rw [if_pos e, if_pos e]
    rfl
  · rw [if_neg e, if_neg e]

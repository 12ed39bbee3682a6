-- PART: dials: closed form against one pulse after another.
theorem sdiv (k : Nat) {o : Nat} (ho : 0 < o) : (k + 1) / o = k / o + (if (k + 1) % o = 0 then 1 else 0) := by
  have h := Nat.div_add_mod k o
  have hr := Nat.mod_lt k ho
  generalize k / o = q at h ⊢
  generalize k % o = r at h hr
  subst h
  by_cases e : r + 1 = o
  · have h2 : o * q + r + 1 = o * (q + 1) := by rw [Nat.mul_add, Nat.mul_one]; omega
    rw [h2, Nat.mul_div_cancel_left _ ho, Nat.mul_mod_right, if_pos rfl]
  · have h2 : o * q + r + 1 = o * q + (r + 1) := by omega
    have h3 : (r + 1) % o = r + 1 := Nat.mod_eq_of_lt (by omega)
    rw [h2, Nat.mul_add_div ho, Nat.div_eq_of_lt (by omega), Nat.mul_add_mod, h3, if_neg (by omega)]
def gn (sk bo k : Nat) : Nat := if sk ≠ 0 ∧ k % sk = 0 then 0 else if bo ≠ 0 ∧ k % bo = 0 then 2 else 1
def far (sk bo c : Nat) : Nat → Nat
  | 0 => 0
  | n + 1 => far sk bo c n + gn sk bo (c + n + 1)
theorem gn_le (sk bo k : Nat) : gn sk bo k ≤ 2 := by
  unfold gn
  split
  · omega
  · split <;> omega
theorem far_le (sk bo c : Nat) : ∀ n, far sk bo c n ≤ 2 * n
  | 0 => Nat.le_refl _
  | n + 1 => by
    have := far_le sk bo c n
    have := gn_le sk bo (c + n + 1)
    show far sk bo c n + gn sk bo (c + n + 1) ≤ _
    omega
def mul9 (o a u : Nat) : Nat := if o = 0 then 0 else u / o - a / o
def lc9 (sk bo : Nat) : Nat := if sk = 0 ∨ bo = 0 then 0 else sk / Nat.gcd sk bo * bo
def dv (o k : Nat) : Nat := if o ≠ 0 ∧ k % o = 0 then 1 else 0
theorem mul9_0 (o a : Nat) : mul9 o a a = 0 := by
  unfold mul9
  split
  · rfl
  · omega
theorem mul9_s (o a n : Nat) : mul9 o a (a + n + 1) = mul9 o a (a + n) + dv o (a + n + 1) := by
  unfold mul9 dv
  by_cases ho : o = 0
  · rw [if_pos ho, if_pos ho, if_neg (fun q => q.1 ho)]
  · rw [if_neg ho, if_neg ho, sdiv _ (Nat.pos_of_ne_zero ho)]
    have hle : a / o ≤ (a + n) / o := Nat.div_le_div_right (Nat.le_add_right _ _)
    by_cases hm : (a + n + 1) % o = 0
    · rw [if_pos hm, if_pos ⟨ho, hm⟩]
      omega
    · rw [if_neg hm, if_neg (fun q => hm q.2)]
      omega
theorem lc9_dv (sk bo k : Nat) : dv (lc9 sk bo) k = dv sk k * dv bo k := by
  unfold lc9 dv
  by_cases h0 : sk = 0 ∨ bo = 0
  · rw [if_pos h0, if_neg (fun q => q.1 rfl)]
    rcases h0 with q | q
    · rw [if_neg (fun z => z.1 q), Nat.zero_mul]
    · rw [if_neg (c := bo ≠ 0 ∧ k % bo = 0) (fun z => z.1 q), Nat.mul_zero]
  · rw [if_neg h0]
    have h1 : sk ≠ 0 := fun q => h0 (Or.inl q)
    have h2 : bo ≠ 0 := fun q => h0 (Or.inr q)
    have e : sk / Nat.gcd sk bo * bo = Nat.lcm sk bo := by
      unfold Nat.lcm
      rw [Nat.div_mul_right_comm (Nat.gcd_dvd_left sk bo)]
    rw [e]
    have hl : Nat.lcm sk bo ≠ 0 := Nat.lcm_ne_zero h1 h2
    have hiff : k % Nat.lcm sk bo = 0 ↔ k % sk = 0 ∧ k % bo = 0 := by
      rw [← Nat.dvd_iff_mod_eq_zero, ← Nat.dvd_iff_mod_eq_zero, ← Nat.dvd_iff_mod_eq_zero]
      exact Nat.lcm_dvd_iff
    by_cases h3 : k % sk = 0
    · by_cases h4 : k % bo = 0
      · rw [if_pos ⟨hl, hiff.mpr ⟨h3, h4⟩⟩, if_pos ⟨h1, h3⟩, if_pos ⟨h2, h4⟩]
      · rw [if_neg (fun q => h4 (hiff.mp q.2).2), if_neg (c := bo ≠ 0 ∧ k % bo = 0) (fun q => h4 q.2), Nat.mul_zero]
    · rw [if_neg (fun q => h3 (hiff.mp q.2).1), if_neg (c := sk ≠ 0 ∧ k % sk = 0) (fun q => h3 q.2), Nat.zero_mul]
theorem gn_dv (sk bo k : Nat) : 1 + dv bo k = gn sk bo k + dv sk k + dv sk k * dv bo k := by
  unfold gn dv
  by_cases h1 : sk ≠ 0 ∧ k % sk = 0
  · rw [if_pos h1, if_pos h1, Nat.one_mul, Nat.zero_add]
  · rw [if_neg h1, if_neg h1]
    by_cases h2 : bo ≠ 0 ∧ k % bo = 0
    · rw [if_pos h2, if_pos h2]
    · rw [if_neg h2, if_neg h2]
theorem far_eq (sk bo c : Nat) : ∀ n, n + mul9 bo c (c + n) = far sk bo c n + mul9 sk c (c + n) + mul9 (lc9 sk bo) c (c + n) ∧ mul9 sk c (c + n) ≤ n ∧ mul9 (lc9 sk bo) c (c + n) ≤ mul9 bo c (c + n) ∧ mul9 bo c (c + n) ≤ n
  | 0 => by
    simp [mul9_0, far]
  | n + 1 => by
    obtain ⟨h1, h2, h3, h4⟩ := far_eq sk bo c n
    have e := gn_dv sk bo (c + n + 1)
    have e1 : dv sk (c + n + 1) ≤ 1 := by unfold dv; split <;> omega
    have e2 : dv bo (c + n + 1) ≤ 1 := by unfold dv; split <;> omega
    have e3 : dv sk (c + n + 1) * dv bo (c + n + 1) ≤ dv bo (c + n + 1) := by
      have := Nat.mul_le_mul_right (dv bo (c + n + 1)) e1
      rw [Nat.one_mul] at this
      exact this
    rw [← Nat.add_assoc, mul9_s, mul9_s, mul9_s, lc9_dv]
    show n + 1 + _ = far sk bo c n + gn sk bo (c + n + 1) + _ + _ ∧ _
    omega
/-- what a dial holds -/
def DH (h : PH) (a b t hd l c sk bo hl : Nat) : Prop := hI h a 0 = nI b ∧ hI h a 1 = nI t ∧ hI h a 2 = nI hd ∧ hI h a 3 = nI l ∧ hI h a 5 = nI c ∧ hI h a 6 = nI sk ∧ hI h a 7 = nI bo ∧ hI h a 4 = nI hl
section Dial
variable {L : Nat} {h : PH}
theorem m33 (d : Nat) {o a u : Nat} (ho : o < 2147483648) (hau : a ≤ u) (hu : u < 2147483648) : exec (g2 L) (d + 1) 33 [.int (nI o), .int (nI a), .int (nI u)] h = some (some (.int (nI (mul9 o a u))), h) := by
  rw [x33]
  unfold mul9
  by_cases h0 : o = 0
  · rw [if_neg (by rw [h0]; exact fun q => q rfl), if_pos h0]
  · have hne : ¬ nI o = nI 0 := by rw [nI_eqI (by omega) (by omega)]; exact h0
    have hle : a / o ≤ u / o := Nat.div_le_div_right hau
    rw [if_pos hne, if_neg hne, if_neg hne, nI_quot (by omega) (by omega), nI_quot (by omega) (by omega), nI_minus hle, if_neg h0]
theorem m34_end {d : Nat} {a b t hd l c sk bo hl : Nat} (hD : DH h a b t hd l c sk bo hl) (hk : kx_K a = 24) (ha : a < 289) (h1 : sk ≤ 999) (h2 : bo ≤ 999) (x2 x3 : Int32) (v4 : Value) : runL (g2 L) d 4 false (some .int) kc_34 38 [.ref a, .int (nI (Nat.gcd sk bo)), .int x2, .int x3, v4] [] h = some (some (.int (nI (lc9 sk bo))), h) := by
  obtain ⟨-, -, -, -, -, f6, f7, -⟩ := hD
  rw [e34_38, okA_of hk ha, asr_true, f6, asr_true, f7, asr_true, asr_true]
  unfold lc9
  by_cases z1 : sk = 0
  · rw [if_pos (by rw [z1]), if_pos (Or.inl z1)]
  · rw [if_neg (by rw [nI_eqI (by omega) (by omega)]; exact z1)]
    by_cases z2 : bo = 0
    · rw [if_pos (by rw [z2]), if_pos (Or.inr z2)]
    · have hg0 : Nat.gcd sk bo ≠ 0 := fun q => z1 (Nat.eq_zero_of_gcd_eq_zero_left q)
      have hg1 : Nat.gcd sk bo ≤ sk := Nat.gcd_le_left bo (Nat.pos_of_ne_zero z1)
      have hg : ¬ nI (Nat.gcd sk bo) = nI 0 := by rw [nI_eqI (by omega) (by omega)]; exact hg0
      rw [if_neg (by rw [nI_eqI (by omega) (by omega)]; exact z2), if_pos hg, if_neg hg, nI_quot (by omega) (by omega), nI_times, if_neg (fun q => q.elim z1 z2)]
theorem m34_loop {d : Nat} {a b t hd l c sk bo hl : Nat} (hD : DH h a b t hd l c sk bo hl) (hk : kx_K a = 24) (ha : a < 289) (h1 : sk ≤ 999) (h2 : bo ≤ 999) : ∀ (k x y i : Nat) (v4 : Value), y < 2 ^ k → k ≤ 10 → x ≤ 999 → i + 2 * k + 1 ≤ 40 → Nat.gcd x y = Nat.gcd sk bo → runL (g2 L) d 4 false (some .int) kc_34 12 [.ref a, .int (nI x), .int (nI y), .int (nI i), v4] [] h = some (some (.int (nI (lc9 sk bo))), h) := by
  intro k
  induction k with
  | zero =>
    intro x y i v4 hy hk10 hx hi hg
    have e : y = 0 := by simpa using hy
    subst e
    rw [e34_12, if_neg (by rw [nI_leN (by omega) (by omega)]; omega), if_pos rfl]
    rw [Nat.gcd_zero_right] at hg
    rw [hg]
    exact m34_end hD hk ha h1 h2 _ _ _
  | succ k ih =>
    intro x y i v4 hy hk10 hx hi hg
    have hp : 2 ^ k ≤ 2 ^ 9 := Nat.pow_le_pow_right (by omega) (by omega)
    have hp2 : 2 ^ (k + 1) = 2 * 2 ^ k := by rw [Nat.pow_succ]; omega
    have hy9 : y ≤ 1023 := by omega
    by_cases hy0 : y = 0
    · subst hy0
      exact ih x 0 i v4 (Nat.pow_pos (by omega)) (by omega) hx (by omega) hg
    · have hyn : ¬ nI y = nI 0 := by rw [nI_eqI (by omega) (by omega)]; exact hy0
      have hr : x % y < y := Nat.mod_lt _ (Nat.pos_of_ne_zero hy0)
      have hrx : x % y ≤ x := Nat.mod_le _ _
      rw [e34_12, if_neg (by rw [nI_leN (by omega) (by omega)]; omega), if_neg hyn, if_neg hyn, nI_rest (by omega) (by omega), nI_plus]
      have hg2 : Nat.gcd y (x % y) = Nat.gcd sk bo := by rw [← hg, Nat.gcd_comm x y, Nat.gcd_rec y x, Nat.gcd_comm]
      by_cases hr0 : x % y = 0
      · rw [hr0] at hg2 ⊢
        rw [e34_12, if_neg (by rw [nI_leN (by omega) (by omega)]; omega), if_pos rfl]
        rw [Nat.gcd_zero_right] at hg2
        rw [hg2]
        exact m34_end hD hk ha h1 h2 _ _ _
      · have hrn : ¬ nI (x % y) = nI 0 := by rw [nI_eqI (by omega) (by omega)]; exact hr0
        have hs : y % (x % y) < x % y := Nat.mod_lt _ (Nat.pos_of_ne_zero hr0)
        have hhalf : 2 * (y % (x % y)) < y := by
          have e1 := Nat.div_add_mod y (x % y)
          have e2 : 1 ≤ y / (x % y) := (Nat.one_le_div_iff (Nat.pos_of_ne_zero hr0)).mpr (by omega)
          have e3 : x % y * 1 ≤ x % y * (y / (x % y)) := Nat.mul_le_mul_left _ e2
          omega
        rw [e34_12, if_neg (by rw [nI_leN (by omega) (by omega)]; omega), if_neg hrn, if_neg hrn, nI_rest (by omega) (by omega), nI_plus]
        refine ih (x % y) (y % (x % y)) (i + 1 + 1) _ (by omega) (by omega) (by omega) (by omega) ?_
        rw [← hg2, Nat.gcd_comm y (x % y), Nat.gcd_rec (x % y) y, Nat.gcd_comm]
theorem m34 (d : Nat) {a b t hd l c sk bo hl : Nat} (hD : DH h a b t hd l c sk bo hl) (hk : kx_K a = 24) (ha : a < 289) (h1 : sk ≤ 999) (h2 : bo ≤ 999) : exec (g2 L) (d + 1) 34 [.ref a] h = some (some (.int (nI (lc9 sk bo))), h) := by
  obtain ⟨-, -, -, -, -, f6, f7, -⟩ := id hD
  rw [x34, okA_of hk ha, asr_true, asr_true, f6, f7]
  exact m34_loop hD hk ha h1 h2 10 sk bo 0 dm (by omega) (by omega) (by omega) (by omega) rfl
theorem lc9_le {sk bo : Nat} (h1 : sk ≤ 999) (h2 : bo ≤ 999) : lc9 sk bo ≤ 998001 := by
  unfold lc9
  split
  · omega
  · have : sk / Nat.gcd sk bo ≤ 999 := Nat.le_trans (Nat.div_le_self _ _) h1
    exact Nat.le_trans (Nat.mul_le_mul this h2) (by omega)
theorem m32 (d : Nat) {a b t hd l c sk bo hl : Nat} (hD : DH h a b t hd l c sk bo hl) (hk : kx_K a = 24) (ha : a < 289) (h1 : sk ≤ 999) (h2 : bo ≤ 999) (hc : c ≤ 100000000) {n : Nat} (hn : n ≤ 20000) : exec (g2 L) (d + 2) 32 [.ref a, .int (nI n)] h = some (some (.int (nI (far sk bo c n))), h) := by
  obtain ⟨-, -, -, -, f5, f6, f7, -⟩ := id hD
  have hl9 := lc9_le h1 h2
  obtain ⟨e1, e2, e3, e4⟩ := far_eq sk bo c n
  rw [x32, okA_of hk ha, asr_true, asr_true, asr_true, f5, f6, nI_plus, m33 d (by omega) (by omega) (by omega), cI_s, okA_of hk ha, asr_true, asr_true, f5, f7, m33 d (by omega) (by omega) (by omega), cI_s, okA_of hk ha, asr_true, m34 d hD hk ha h1 h2, cI_s, okA_of hk ha, asr_true, f5, m33 d (by omega) (by omega) (by omega), cI_s, nI_minus e2, nI_minus e3, nI_plus, show n - mul9 sk c (c + n) + (mul9 bo c (c + n) - mul9 (lc9 sk bo) c (c + n)) = far sk bo c n by omega]
end Dial

-- PART: whether a pulse comes to a branch.
theorem pred_eq {c st : Nat} (hc : c < 2147483648) (hs : st < 2147483648) : (nI c = nI st - nI 1) ↔ c + 1 = st := by
  cases st with
  | zero =>
    rw [nI_p0, nI_ne_m1 hc]
    exact ⟨False.elim, fun q => by omega⟩
  | succ s =>
    rw [nI_m1_plus, nI_eqI (by omega) (by omega)]
    omega
theorem m1_pred {st : Nat} (hs : st < 2147483648) : (nI st - nI 1 = m1) ↔ st = 0 := by
  cases st with
  | zero => exact ⟨fun _ => rfl, fun _ => nI_p0⟩
  | succ s =>
    rw [nI_m1_plus, nI_ne_m1 (by omega)]
    exact ⟨False.elim, fun q => by omega⟩
theorem m1_neg : (nI 0 ≤ m1) ↔ False := ⟨fun q => absurd q (by decide), False.elim⟩
/-- whether a pulse that begins at st (0: in the hall; else a branch + 1) comes to c (0: the hall; else a branch + 1) -/
def cm (A : Nat → Nat) (st : Nat) (c : Nat) : Bool :=
  match c with
  | 0 => decide (st = 0)
  | c + 1 => if A (28 + c) ≠ 0 then false else if c + 1 = st then true else if h : A (20 + c) ≤ c then cm A st (A (20 + c)) else false
termination_by c
decreasing_by omega
theorem cm_0 (A : Nat → Nat) (st : Nat) : cm A st 0 = decide (st = 0) := by rw [cm]
theorem cm_s (A : Nat → Nat) (st c : Nat) : cm A st (c + 1) = if A (28 + c) ≠ 0 then false else if c + 1 = st then true else if A (20 + c) ≤ c then cm A st (A (20 + c)) else false := by
  rw [cm]
  split <;> simp
section Comes
variable {L : Nat} {A : Nat → Nat} {h : PH}
theorem ne_if {p : Prop} [Decidable p] {h : PH} : (if ¬ p then some (some (Value.int (nI 0)), h) else some (some (.int (nI 1)), h)) = (some (some (.int (bI p)), h) : PR) := by
  by_cases q : p
  · rw [if_neg (not_not_intro q), bI_t q]
  · rw [if_pos q, bI_f q]
theorem m30_loop {d : Nat} (hR : RC h 0 A) (h3 : A 3 ≤ 8) (hB : ∀ b, b < A 3 → A (20 + b) ≤ b) (hk : ∀ b, b < 8 → A (28 + b) ≤ 1) {st : Nat} (hst : st ≤ 8) (x2 : Int32) : ∀ (m c i : Nat), c ≤ m → c ≤ A 3 → c + i ≤ 8 → runL (g2 L) (d + 1) 2 false (some .boolean) kc_30 5 [.ref 4, .int (nI st - nI 1), .int x2, .int (nI c - nI 1), .int (nI i)] [] h = some (some (.int (bI (cm A st c = true))), h) := by
  intro m
  induction m with
  | zero =>
    intro c i hm hc hi
    have e : c = 0 := by omega
    subst e
    have hfin : (if nI st - nI 1 ≠ m1 then some (some (Value.int (nI 0)), h) else some (some (.int (nI 1)), h)) = (some (some (.int (bI (cm A st 0 = true))), h) : PR) := by
      have := ne_if (p := nI st - nI 1 = m1) (h := h)
      rw [cm_0, bI_c (P' := nI st - nI 1 = m1) (by rw [m1_pred (by omega)]; simp)]
      exact this
    rw [e30_5, nI_p0]
    by_cases h8 : nI 8 ≤ nI i
    · rw [if_pos h8]
      exact hfin
    · rw [if_neg h8, m14, cI_s, if_pos (bI_0.mpr (fun q => m1_neg.mp q.1))]
      exact hfin
  | succ m ih =>
    intro c i hm hc hi
    cases c with
    | zero => exact ih 0 i (by omega) hc hi
    | succ c =>
      have hc3 : c < A 3 := by omega
      have f1 := hR.nb
      have f2 := hR.br (b := c) (by omega)
      have f3 := hR.fr (b := c) (by omega)
      simp only [Nat.zero_add] at f1 f2 f3
      have hk1 := hk c (by omega)
      have hb1 := hB c hc3
      rw [e30_5, nI_m1_plus, if_neg (by rw [nI_leN (by omega) (by omega)]; omega), m14, f1, cI_s, if_neg (by rw [bI_0, nI_leN (by omega) (by omega), nI_ltN (by omega) (by omega)]; omega), inB_nI (by omega), asr_d (by omega), ix_nI (by omega), f2, f3, asr_d (by omega), nI_plus]
      rw [cm_s]
      by_cases hbr : A (28 + c) = 0
      · rw [if_pos (show nI (A (28 + c)) = nI 0 by rw [hbr]), if_neg (show ¬ A (28 + c) ≠ 0 from fun q => q hbr)]
        by_cases hs : c + 1 = st
        · rw [if_neg (show ¬ nI c ≠ nI st - nI 1 from not_not_intro ((pred_eq (by omega) (by omega)).mpr hs)), if_pos hs, bI_t rfl]
        · rw [if_pos (show nI c ≠ nI st - nI 1 from fun q => hs ((pred_eq (by omega) (by omega)).mp q)), if_neg hs, if_pos hb1]
          exact ih _ _ (by omega) (by omega) (by omega)
      · rw [if_neg (show ¬ nI (A (28 + c)) = nI 0 by rw [nI_eqI (by omega) (by omega)]; exact hbr), if_pos hbr, bI_f (by simp)]
theorem m30 (d : Nat) (hR : RC h 0 A) (h3 : A 3 ≤ 8) (hB : ∀ b, b < A 3 → A (20 + b) ≤ b) (hk : ∀ b, b < 8 → A (28 + b) ≤ 1) {st b : Nat} (hst : st ≤ 8) (hb : b < A 3) : exec (g2 L) (d + 2) 30 [.ref 4, .int (nI st - nI 1), .int (nI b)] h = some (some (.int (bI (cm A st (b + 1) = true))), h) := by
  rw [x30]
  have := m30_loop (L := L) (d := d) hR h3 hB hk hst (nI b) (b + 1) (b + 1) 0 (Nat.le_refl _) (by omega) (by omega)
  rw [nI_m1_plus] at this
  exact this
theorem m167_loop {d : Nat} (hR : RM h 254 A) (h3 : A 3 ≤ 8) (hB : ∀ b, b < A 3 → A (20 + b) ≤ b) (hk : ∀ b, b < 8 → A (28 + b) ≤ 1) {st : Nat} (hst : st ≤ 8) (x1 : Int32) : ∀ (m c : Nat), c ≤ m → c ≤ A 3 → runL (g2 L) d 11 false (some .boolean) kc_167 2 [.ref 253, .int x1, .int (nI st - nI 1), .int (nI c - nI 1)] [] h = some (some (.int (bI (cm A st c = true))), h) := by
  intro m
  induction m with
  | zero =>
    intro c hm hc
    have e : c = 0 := by omega
    subst e
    rw [e167_2, nI_p0, if_pos rfl, if_neg (fun q => q rfl)]
    have := ne_if (p := nI st - nI 1 = m1) (h := h)
    rw [cm_0, bI_c (P' := nI st - nI 1 = m1) (by rw [m1_pred (by omega)]; simp)]
    exact this
  | succ m ih =>
    intro c hm hc
    cases c with
    | zero => exact ih 0 (by omega) hc
    | succ c =>
      have hc3 : c < A 3 := by omega
      have f2 := hR.at (k := 28 + c) (by omega) (by omega)
      have f3 := hR.am (k := 20 + c) (by omega) (by omega)
      have hk1 := hk c (by omega)
      have hb1 := hB c hc3
      rw [e167_2, nI_m1_plus, if_neg (by rw [nI_ne_m1 (by omega)]; exact id), nI_plus, inB_nI (by omega), asr_d (by omega), ix_nI (by omega), f2, nI_plus, inB_nI (by omega), asr_d (by omega), ix_nI (by omega), f3]
      rw [cm_s]
      by_cases hbr : A (28 + c) = 0
      · rw [if_neg (show ¬ nI (A (28 + c)) ≠ nI 0 by rw [hbr]; exact fun q => q rfl), if_neg (show ¬ A (28 + c) ≠ 0 from fun q => q hbr)]
        by_cases hs : c + 1 = st
        · rw [if_neg (show ¬ nI c ≠ nI st - nI 1 from not_not_intro ((pred_eq (by omega) (by omega)).mpr hs)), if_pos hs, bI_t rfl]
        · rw [if_pos (show nI c ≠ nI st - nI 1 from fun q => hs ((pred_eq (by omega) (by omega)).mp q)), if_neg hs, if_pos hb1]
          exact ih _ (by omega) (by omega)
      · rw [if_pos (show nI (A (28 + c)) ≠ nI 0 by rw [Ne, nI_eqI (by omega) (by omega)]; exact hbr), if_pos (show nI c ≠ m1 by rw [Ne, nI_ne_m1 (by omega)]; exact id), if_pos hbr, bI_f (by simp)]
theorem m167 (d : Nat) (hR : RM h 254 A) (h3 : A 3 ≤ 8) (hB : ∀ b, b < A 3 → A (20 + b) ≤ b) (hk : ∀ b, b < 8 → A (28 + b) ≤ 1) {st b : Nat} (hst : st ≤ 8) (hb : b < A 3) : exec (g2 L) (d + 1) 167 [.ref 253, .int (nI b), .int (nI st - nI 1)] h = some (some (.int (bI (cm A st (b + 1) = true))), h) := by
  rw [x167]
  have := m167_loop (L := L) (d := d) hR h3 hB hk hst (nI b) (b + 1) (b + 1) (Nat.le_refl _) (by omega)
  rw [nI_m1_plus] at this
  exact this
end Comes

-- PART: the small methods.
def bI (P : Prop) [Decidable P] : Int32 := if P then nI 1 else nI 0
theorem bI_0 {P : Prop} [Decidable P] : (bI P = nI 0) ↔ ¬ P := b01
theorem bI_nz {P : Prop} [Decidable P] : (bI P ≠ nI 0) ↔ P := by
  rw [Ne, bI_0]
  exact Decidable.not_not
theorem bI_Z {P : Prop} [Decidable P] : decide (nrZ (bI P) = bI P) = true := decide_eq_true (nrZ01.mpr trivial)
theorem bI_t {P : Prop} [Decidable P] (h : P) : bI P = nI 1 := if_pos h
theorem bI_f {P : Prop} [Decidable P] (h : ¬ P) : bI P = nI 0 := if_neg h
theorem bI_c {P P' : Prop} [Decidable P] [Decidable P'] (h : P ↔ P') : bI P = bI P' := by
  by_cases q : P
  · rw [bI_t q, bI_t (h.mp q)]
  · rw [bI_f q, bI_f (fun z => q (h.mpr z))]
theorem ret_b {P : Prop} [Decidable P] {h : PH} : (if P then some (some (Value.int (nI 1)), h) else some (some (Value.int (nI 0)), h)) = (some (some (.int (bI P)), h) : PR) := by
  by_cases q : P
  · rw [if_pos q, bI_t q]
  · rw [if_neg q, bI_f q]
section Leaf
variable {L : Nat}
theorem m18 (d : Nat) (x a b : Int32) (h : PH) : exec (g2 L) (d + 1) 18 [.int x, .int a, .int b] h = some (some (.int (bI (a ≤ x ∧ x ≤ b))), h) := by
  rw [x18]
  by_cases h1 : x < a
  · rw [if_pos h1, bI_f]
    exact fun q => absurd h1 (Int32.not_lt.mpr q.1)
  · rw [if_neg h1]
    by_cases h2 : b < x
    · rw [if_pos h2, bI_f]
      exact fun q => absurd h2 (Int32.not_lt.mpr q.2)
    · rw [if_neg h2, bI_t]
      exact ⟨Int32.not_lt.mp h1, Int32.not_lt.mp h2⟩
theorem m153 (d : Nat) (x a b : Int32) (h : PH) : exec (g2 L) (d + 1) 153 [.int x, .int a, .int b] h = some (some (.int (bI (a ≤ x ∧ x ≤ b))), h) := by
  rw [x153]
  by_cases h1 : x < a
  · rw [if_pos h1, bI_f]
    exact fun q => absurd h1 (Int32.not_lt.mpr q.1)
  · rw [if_neg h1]
    by_cases h2 : b < x
    · rw [if_pos h2, bI_f]
      exact fun q => absurd h2 (Int32.not_lt.mpr q.2)
    · rw [if_neg h2, bI_t]
      exact ⟨Int32.not_lt.mp h1, Int32.not_lt.mp h2⟩
theorem m17 (d : Nat) (x : Int32) (h : PH) : exec (g2 L) (d + 2) 17 [.int x] h = some (some (.int (bI (nI 0 ≤ x ∧ x ≤ nI 719))), h) := by
  rw [x17, m18, cI_s, bI_Z, asr_true]
theorem m19 (d : Nat) (x : Int32) (h : PH) : exec (g2 L) (d + 2) 19 [.int x] h = some (some (.int (bI (nI 0 ≤ x ∧ x ≤ nI 1))), h) := by
  rw [x19, m18, cI_s, bI_Z, asr_true]
theorem m126 (d : Nat) (x : Int32) (h : PH) : exec (g2 L) (d + 2) 126 [.int x] h = some (some (.int (bI (nI 0 ≤ x ∧ x ≤ nI 3))), h) := by
  rw [x126, m18, cI_s, bI_Z, asr_true]
theorem m127 (d : Nat) (x : Int32) (h : PH) : exec (g2 L) (d + 2) 127 [.int x] h = some (some (.int (bI (nI 0 ≤ x ∧ x ≤ nI 575999))), h) := by
  rw [x127, m18, cI_s, bI_Z, asr_true]
theorem m242 (d : Nat) (x : Int32) (h : PH) : exec (g2 L) (d + 2) 242 [.int x] h = some (some (.int (bI (nI 0 ≤ x ∧ x ≤ nI 3))), h) := by
  rw [x242, m153, cI_s, bI_Z, asr_true]
theorem m243 (d : Nat) (x : Int32) (h : PH) : exec (g2 L) (d + 2) 243 [.int x] h = some (some (.int (bI (nI 0 ≤ x ∧ x ≤ nI 575999))), h) := by
  rw [x243, m153, cI_s, bI_Z, asr_true]
theorem has_if {x n : Int32} {h : PH} : (if x < nI 0 then some (some (Value.int (nI 0)), h) else if n ≤ x then some (some (.int (nI 0)), h) else some (some (.int (nI 1)), h)) = (some (some (.int (bI (nI 0 ≤ x ∧ x < n))), h) : PR) := by
  by_cases h1 : x < nI 0
  · rw [if_pos h1, bI_f]
    exact fun q => absurd h1 (Int32.not_lt.mpr q.1)
  · rw [if_neg h1]
    by_cases h2 : n ≤ x
    · rw [if_pos h2, bI_f]
      exact fun q => absurd q.2 (Int32.not_lt.mpr h2)
    · rw [if_neg h2, bI_t]
      exact ⟨Int32.not_lt.mp h1, Int32.not_le.mp h2⟩
theorem m14 (d : Nat) (x : Int32) (h : PH) : exec (g2 L) (d + 1) 14 [.ref 4, .int x] h = some (some (.int (bI (nI 0 ≤ x ∧ x < hI h 4 0))), h) := by
  rw [x14a, has_if]
theorem m14w (d : Nat) (x : Int32) (h : PH) : exec (g2 L) (d + 1) 14 [.ref 9, .int x] h = some (some (.int (bI (nI 0 ≤ x ∧ x < hI h 9 0))), h) := by
  rw [x14b, has_if]
theorem m22 (d : Nat) (x : Int32) (h : PH) : exec (g2 L) (d + 1) 22 [.ref 3, .int x] h = some (some (.int (bI (nI 0 ≤ x ∧ x < hI h 3 3))), h) := by
  rw [x22, has_if]
theorem m152 (d : Nat) {x : Int32} {h : PH} {n : Nat} (hn : hI h 254 3 = nI n) (hl : n < 2147483648) : exec (g2 L) (d + 2) 152 [.ref 253, .int x] h = some (some (.int (bI (nI 0 ≤ x ∧ x < nI n))), h) := by
  rw [x152, hn, m153, cI_s, bI_Z, asr_true, bI_c (P' := nI 0 ≤ x ∧ x < nI n) (by rw [le_predI hl])]
theorem m157 (d : Nat) {x : Int32} {h : PH} {n : Nat} (hn : hI h 254 4 = nI n) (hl : n < 2147483648) : exec (g2 L) (d + 2) 157 [.ref 253, .int x] h = some (some (.int (bI (nI 0 ≤ x ∧ x < nI n))), h) := by
  rw [x157, hn, m153, cI_s, bI_Z, asr_true, bI_c (P' := nI 0 ≤ x ∧ x < nI n) (by rw [le_predI hl])]
theorem ix40 {d c : Nat} (hd : d < 16) (hc : c < 8) : nI 40 + nI 8 * nI d + nI c = nI (40 + 8 * d + c) := by
  rw [nI_times, nI_plus, nI_plus]
theorem m166 (d : Nat) {i c : Nat} (hi : i < 16) (hc : c < 8) (h : PH) : exec (g2 L) (d + 1) 166 [.ref 253, .int (nI i), .int (nI c)] h = some (some (.int (hI h 254 (40 + 8 * i + c))), h) := by
  rw [x166, ix40 hi hc, inB_nI (by omega), asr_d (by omega), ix_nI (by omega)]
theorem m155 (d : Nat) {i c : Nat} (hi : i < 16) (hc : c < 8) (v : Int32) (h : PH) : exec (g2 L) (d + 1) 155 [.ref 253, .int (nI i), .int (nI c), .int v] h = some (none, wI h 254 (40 + 8 * i + c) v) := by
  rw [x155, ix40 hi hc, inB_nI (by omega), asr_d (by omega), ix_nI (by omega)]
end Leaf
/-- a row of cells from lo to hi, the place 0: -2 -/
def fgt (lo hi : Nat) (h : PH) : PH := (h.1, h.2.1, fun a k => if lo ≤ a ∧ a < hi ∧ k = 0 then m2 else h.2.2.1 a k, h.2.2.2.1, h.2.2.2.2)
theorem fgt_wI {lo hi : Nat} (hlt : lo < hi) (h : PH) : fgt (lo + 1) hi (wI h lo 0 m2) = fgt lo hi h := by
  unfold fgt wI up2
  refine Prod.ext rfl (Prod.ext rfl (Prod.ext ?_ (Prod.ext rfl rfl)))
  funext a k
  simp only
  by_cases h1 : lo + 1 ≤ a ∧ a < hi ∧ k = 0
  · rw [if_pos h1, if_pos ⟨by omega, h1.2⟩]
  · rw [if_neg h1]
    by_cases h2 : a = lo ∧ k = 0
    · rw [if_pos h2, if_pos ⟨by omega, by omega, h2.2⟩]
    · rw [if_neg h2, if_neg (fun q => by omega)]
theorem fgt_end {lo : Nat} (h : PH) : fgt lo lo h = h := by
  unfold fgt
  refine Prod.ext rfl (Prod.ext rfl (Prod.ext ?_ (Prod.ext rfl rfl)))
  funext a k
  simp only
  rw [if_neg (fun q => by omega)]
theorem fgt_ne {lo hi : Nat} {h : PH} {a : Nat} (ha : ¬ (lo ≤ a ∧ a < hi)) : hI (fgt lo hi h) a = hI h a := by
  funext k
  show (if lo ≤ a ∧ a < hi ∧ k = 0 then m2 else hI h a k) = hI h a k
  rw [if_neg (fun q => ha ⟨q.1, q.2.1⟩)]
theorem fgt_at {lo hi : Nat} {h : PH} {a : Nat} (ha : lo ≤ a ∧ a < hi) : hI (fgt lo hi h) a 0 = m2 := by
  show (if lo ≤ a ∧ a < hi ∧ 0 = 0 then m2 else hI h a 0) = m2
  rw [if_pos ⟨ha.1, ha.2, rfl⟩]
theorem m8_loop {L d : Nat} : ∀ (n i : Nat), i + n = 16 → ∀ h : PH, runL (g2 L) d 6 false none kc_8 2 [.ref 163, .int (nI i)] [] h = some (none, fgt (165 + i) 181 h)
  | 0, i, hi, h => by
    have e : i = 16 := by omega
    subst e
    rw [e8_2, if_pos (by decide), fgt_end]
  | n + 1, i, hi, h => by
    have hk := kk16 (i := i) (by omega)
    rw [e8_2, if_neg (by rw [nI_leN (by omega) (by omega)]; omega), inB_nI (by omega), asr_d (by omega), ix_nI (by omega), okW_of hk.2.2.2.2.1 (by omega) (by omega), asr_true, lenA_of (by omega), hk.2.2.2.2.2.1, inB_nI (by omega), asr_d (by omega), nI_plus, m8_loop n (i + 1) (by omega)]
    rw [show 165 + (i + 1) = 165 + i + 1 by omega, fgt_wI (by omega)]
theorem m8 {L : Nat} (d : Nat) (h : PH) : exec (g2 L) (d + 1) 8 [.ref 163] h = some (none, fgt 165 181 h) := by
  rw [x8, m8_loop 16 0 (by omega)]
theorem m6_loop {L d : Nat} : ∀ (n i : Nat), i + n = 31 → ∀ h : PH, runL (g2 L) d 5 false none kc_6 2 [.ref 95, .int (nI i)] [] h = some (none, fgt (97 + i) 128 h)
  | 0, i, hi, h => by
    have e : i = 31 := by omega
    subst e
    rw [e6_2, if_pos (by decide), fgt_end]
  | n + 1, i, hi, h => by
    have hk := kk31 (i := i) (by omega)
    rw [e6_2, if_neg (by rw [nI_ltN (by omega) (by omega)]; omega), inB_nI (by omega), asr_d (by omega), ix_nI (by omega), okW_of hk.1 (by omega) (by omega), asr_true, lenA_of (by omega), hk.2, inB_nI (by omega), asr_d (by omega), nI_plus, m6_loop n (i + 1) (by omega)]
    rw [show 97 + (i + 1) = 97 + i + 1 by omega, fgt_wI (by omega)]
theorem m6 {L : Nat} (d : Nat) (h : PH) : exec (g2 L) (d + 1) 6 [.ref 95] h = some (none, fgt 97 128 h) := by
  rw [x6, m6_loop 31 0 (by omega)]

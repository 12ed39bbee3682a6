-- PART: numbers and heaps, for the mathematics.
theorem nI_toNat {a : Nat} (h : a < 4294967296) : (nI a).toBitVec.toNat = a := by
  show (BitVec.ofNat 32 a).toNat = a
  rw [BitVec.toNat_ofNat]
  exact Nat.mod_eq_of_lt h
theorem nI_ltN {a b : Nat} (ha : a < 2147483648) (hb : b < 2147483648) : (nI a < nI b) ↔ a < b := by
  rw [Int32.lt_iff_toInt_lt, nI_toInt (by omega), nI_toInt (by omega)]
  omega
theorem nI_leN {a b : Nat} (ha : a < 2147483648) (hb : b < 2147483648) : (nI a ≤ nI b) ↔ a ≤ b := by
  rw [Int32.le_iff_toInt_le, nI_toInt (by omega), nI_toInt (by omega)]
  omega
theorem nI_eqI {a b : Nat} (ha : a < 4294967296) (hb : b < 4294967296) : (nI a = nI b) ↔ a = b := by
  constructor
  · intro h
    rw [← nI_toNat ha, ← nI_toNat hb, h]
  · intro h
    rw [h]
theorem nI_plus (a b : Nat) : nI a + nI b = nI (a + b) := by
  apply Int32.toBitVec_inj.mp
  show BitVec.ofNat 32 a + BitVec.ofNat 32 b = BitVec.ofNat 32 (a + b)
  rw [BitVec.ofNat_add]
theorem nI_times (a b : Nat) : nI a * nI b = nI (a * b) := by
  apply Int32.toBitVec_inj.mp
  show BitVec.ofNat 32 a * BitVec.ofNat 32 b = BitVec.ofNat 32 (a * b)
  rw [BitVec.ofNat_mul]
theorem nI_minus {a b : Nat} (h : b ≤ a) : nI a - nI b = nI (a - b) := by
  have e : nI a = nI (a - b) + nI b := by rw [nI_plus, Nat.sub_add_cancel h]
  rw [e]
  apply Int32.toBitVec_inj.mp
  show BitVec.ofNat 32 (a - b) + BitVec.ofNat 32 b - BitVec.ofNat 32 b = BitVec.ofNat 32 (a - b)
  exact BitVec.add_sub_cancel _ _
theorem nI_back {a b : Nat} : nI a + nI b - nI b = nI a := by
  rw [nI_plus, nI_minus (Nat.le_add_left _ _), Nat.add_sub_cancel]
theorem nI_quot {a b : Nat} (ha : a < 2147483648) (hb : b < 2147483648) : nI a / nI b = nI (a / b) := by
  apply Int32.toInt_inj.mp
  rw [Int32.toInt_div, nI_toInt (by omega), nI_toInt (by omega), nI_toInt (Nat.lt_of_le_of_lt (Nat.div_le_self _ _) (by omega))]
  have h0 : ((a : Int).tdiv (b : Int)) = ((a / b : Nat) : Int) := by
    rw [Int.tdiv_eq_ediv_of_nonneg (by omega)]
    exact (Int.natCast_ediv a b).symm
  rw [h0]
  have := Nat.div_le_self a b
  generalize a / b = q at this ⊢
  exact Int.bmod_eq_of_le (by omega) (by omega)
theorem nI_rest {a b : Nat} (ha : a < 2147483648) (hb : b < 2147483648) : nI a % nI b = nI (a % b) := by
  have h1 : a % b ≤ a := Nat.mod_le _ _
  apply Int32.toInt_inj.mp
  rw [Int32.toInt_mod, nI_toInt (by omega), nI_toInt (by omega), nI_toInt (by omega), Int.tmod_eq_emod_of_nonneg (by omega)]
  exact (Int.natCast_emod a b).symm
theorem nI_and (a b : Nat) : nI a &&& nI b = nI (a &&& b) := by
  apply Int32.toBitVec_inj.mp
  show BitVec.ofNat 32 a &&& BitVec.ofNat 32 b = BitVec.ofNat 32 (a &&& b)
  apply BitVec.eq_of_toNat_eq
  simp only [BitVec.toNat_and, BitVec.toNat_ofNat, Nat.and_mod_two_pow]
theorem nI_or (a b : Nat) : nI a ||| nI b = nI (a ||| b) := by
  apply Int32.toBitVec_inj.mp
  show BitVec.ofNat 32 a ||| BitVec.ofNat 32 b = BitVec.ofNat 32 (a ||| b)
  apply BitVec.eq_of_toNat_eq
  simp only [BitVec.toNat_or, BitVec.toNat_ofNat, Nat.or_mod_two_pow]
theorem nI_xor (a b : Nat) : nI a ^^^ nI b = nI (a ^^^ b) := by
  apply Int32.toBitVec_inj.mp
  show BitVec.ofNat 32 a ^^^ BitVec.ofNat 32 b = BitVec.ofNat 32 (a ^^^ b)
  apply BitVec.eq_of_toNat_eq
  simp only [BitVec.toNat_xor, BitVec.toNat_ofNat, Nat.xor_mod_two_pow]
theorem nI_sh31 {b : Nat} (hb : b < 32) : nI b &&& nI 31 = nI b := by
  rw [nI_and]
  congr 1
  have : b &&& 2 ^ 5 - 1 = b % 2 ^ 5 := Nat.and_two_pow_sub_one_eq_mod b 5
  rw [show (31 : Nat) = 2 ^ 5 - 1 from rfl, this]
  exact Nat.mod_eq_of_lt hb
theorem smod_nI {b : Nat} (hb : b < 32) : ((nI b).toBitVec.smod 32).toNat = b := by
  have key : ∀ b, b < 32 → ((nI b).toBitVec.smod 32).toNat = b := by decide +kernel
  exact key b hb
theorem nI_shl (a : Nat) {b : Nat} (hb : b < 32) : nI a <<< (nI b &&& nI 31) = nI (a <<< b) := by
  rw [nI_sh31 hb]
  apply Int32.toBitVec_inj.mp
  show BitVec.ofNat 32 a <<< ((nI b).toBitVec.smod 32) = BitVec.ofNat 32 (a <<< b)
  apply BitVec.eq_of_toNat_eq
  rw [BitVec.shiftLeft_eq', BitVec.toNat_shiftLeft, smod_nI hb, BitVec.toNat_ofNat, BitVec.toNat_ofNat, Nat.shiftLeft_eq, Nat.shiftLeft_eq, Nat.mod_mul_mod]
theorem nI_shr {a b : Nat} (ha : a < 2147483648) (hb : b < 32) : nI a >>> (nI b &&& nI 31) = nI (a >>> b) := by
  rw [nI_sh31 hb]
  apply Int32.toBitVec_inj.mp
  show (nI a).toBitVec.sshiftRight ((nI b).toBitVec.smod 32).toNat = BitVec.ofNat 32 (a >>> b)
  rw [smod_nI hb, BitVec.sshiftRight_eq_of_msb_false]
  · apply BitVec.eq_of_toNat_eq
    rw [BitVec.toNat_ushiftRight, nI_toNat (by omega), BitVec.toNat_ofNat, Nat.mod_eq_of_lt]
    rw [Nat.shiftRight_eq_div_pow]
    exact Nat.lt_of_le_of_lt (Nat.div_le_self _ _) (by omega)
  · rw [BitVec.msb_eq_false_iff_two_mul_lt, nI_toNat (by omega)]
    omega
theorem ix_nI {a : Nat} (h : a < 4294967296) : ix (nI a) = a := nI_toNat h
theorem inB_nI {a n : Nat} (h : a < 4294967296) : inB (nI a) n = decide (a < n) := by
  unfold inB
  rw [ix_nI h]
  show Nat.ble (a + 1) n = decide (a < n)
  by_cases q : a < n
  · rw [decide_eq_true q]
    exact Nat.ble_eq_true_of_le q
  · rw [decide_eq_false q]
    cases hb : Nat.ble (a + 1) n
    · rfl
    · exact absurd (Nat.le_of_ble_eq_true hb) q
def m1 : Int32 := Int32.ofInt (-1)
def m2 : Int32 := Int32.ofInt (-2)
theorem m1_eq : m1 = -1 := by decide
theorem m2_eq : m2 = -2 := by decide
theorem toInt_m1 : m1.toInt = -1 := by decide
theorem toInt_m2 : m2.toInt = -2 := by decide
theorem nI_ne_m1 {a : Nat} (h : a < 2147483648) : (nI a = m1) ↔ False := by
  refine ⟨fun q => ?_, False.elim⟩
  have := congrArg Int32.toInt q
  rw [nI_toInt (by omega), toInt_m1] at this
  omega
theorem nI_lt_m1 {a : Nat} (h : a < 2147483648) : (nI a < m1) ↔ False := by
  rw [Int32.lt_iff_toInt_lt, nI_toInt (by omega), toInt_m1]
  exact ⟨fun q => by omega, False.elim⟩
theorem m1_lt_nI {a : Nat} (h : a < 2147483648) : (m1 < nI a) ↔ True := by
  rw [Int32.lt_iff_toInt_lt, nI_toInt (by omega), toInt_m1]
  exact ⟨fun _ => trivial, fun _ => by omega⟩
theorem m1_le_nI {a : Nat} (h : a < 2147483648) : (m1 ≤ nI a) ↔ True := by
  rw [Int32.le_iff_toInt_le, nI_toInt (by omega), toInt_m1]
  exact ⟨fun _ => trivial, fun _ => by omega⟩
theorem nI_le_m1 {a : Nat} (h : a < 2147483648) : (nI a ≤ m1) ↔ False := by
  rw [Int32.le_iff_toInt_le, nI_toInt (by omega), toInt_m1]
  exact ⟨fun q => by omega, False.elim⟩
theorem nI_ne_m2 {a : Nat} (h : a < 2147483648) : (nI a = m2) ↔ False := by
  refine ⟨fun q => ?_, False.elim⟩
  have := congrArg Int32.toInt q
  rw [nI_toInt (by omega), toInt_m2] at this
  omega
theorem nI_p0 : nI 0 - nI 1 = m1 := by decide
theorem nI_m1_plus (a : Nat) : nI (a + 1) - nI 1 = nI a := by
  rw [nI_minus (by omega), Nat.add_sub_cancel]
theorem m1_plus1 : m1 + nI 1 = nI 0 := by decide
theorem nI_plus_m1 (a : Nat) : nI (a + 1) + m1 = nI a := by
  rw [← nI_plus]
  have e : nI a + nI 1 + m1 = nI a + (nI 1 + m1) := Int32.add_assoc _ _ _
  rw [e, show nI 1 + m1 = nI 0 from by decide, nI_plus, Nat.add_zero]
/-- any number of a call -/
theorem cases32 (x : Int32) : x < nI 0 ∨ ∃ n, n < 2147483648 ∧ x = nI n := by
  by_cases h : x < nI 0
  · exact Or.inl h
  · refine Or.inr ⟨x.toInt.toNat, ?_, ?_⟩
    · have := Int32.toInt_lt x
      omega
    · have h0 : (0 : Int) ≤ x.toInt := by
        have := Int32.not_lt.mp h
        have := Int32.le_iff_toInt_le.mp this
        rw [nI_toInt (by omega)] at this
        omega
      apply Int32.toInt_inj.mp
      have := Int32.toInt_lt x
      rw [nI_toInt (by omega)]
      omega
theorem b01 {P : Prop} [Decidable P] : ((if P then nI 1 else nI 0) = nI 0) ↔ ¬ P := by
  by_cases h : P
  · rw [if_pos h]
    exact ⟨fun q => absurd q (by decide), fun q => absurd h q⟩
  · rw [if_neg h]
    exact ⟨fun _ => h, fun _ => rfl⟩
theorem nrZ01 {P : Prop} [Decidable P] : (nrZ (if P then nI 1 else nI 0) = (if P then nI 1 else nI 0)) ↔ True := by
  by_cases h : P
  · rw [if_pos h]
    exact ⟨fun _ => trivial, fun _ => rfl⟩
  · rw [if_neg h]
    exact ⟨fun _ => trivial, fun _ => rfl⟩
/-- x ≤ n - 1 -/
theorem le_predI {x : Int32} {n : Nat} (hn : n < 2147483648) : (x ≤ nI n - nI 1) ↔ x < nI n := by
  rw [Int32.le_iff_toInt_le, Int32.lt_iff_toInt_lt, Int32.toInt_sub, nI_toInt (by omega), nI_toInt (by omega)]
  rw [Int.bmod_eq_of_le (by omega) (by omega)]
  omega
theorem hI_wI (h : PH) (a k : Nat) (v : Int32) (x j : Nat) : hI (wI h a k v) x j = if x = a ∧ j = k then v else hI h x j := rfl
theorem hI_wJ (h : PH) (a k : Nat) (v : Int64) : hI (wJ h a k v) = hI h := rfl
theorem hI_wR (h : PH) (a k v : Nat) : hI (wR h a k v) = hI h := rfl
theorem hJ_wI (h : PH) (a k : Nat) (v : Int32) : hJ (wI h a k v) = hJ h := rfl
theorem hJ_wJ (h : PH) (a k : Nat) (v : Int64) (x j : Nat) : hJ (wJ h a k v) x j = if x = a ∧ j = k then v else hJ h x j := rfl
theorem hJ_wR (h : PH) (a k v : Nat) : hJ (wR h a k v) = hJ h := rfl
theorem hR_wI (h : PH) (a k : Nat) (v : Int32) : hR (wI h a k v) = hR h := rfl
theorem hR_wJ (h : PH) (a k : Nat) (v : Int64) : hR (wJ h a k v) = hR h := rfl
theorem hR_wR (h : PH) (a k v x j : Nat) : hR (wR h a k v) x j = if x = a ∧ j = k then v else hR h x j := rfl
theorem asr_d {P : Prop} [Decidable P] (hp : P) (x : PR) : asr (decide P) x = x := by rw [decide_eq_true hp]; rfl
theorem asr_true (x : PR) : asr true x = x := rfl
theorem cI_s (x : Int32) (h : PH) (f : Int32 → PH → PR) : cI (some (some (.int x), h)) f = f x h := rfl
theorem cV_s (h : PH) (f : PH → PR) : cV (some (none, h)) f = f h := rfl
theorem cJ_s (x : Int64) (h : PH) (f : Int64 → PH → PR) : cJ (some (some (.long x), h)) f = f x h := rfl
theorem cA_s (x : Nat) (h : PH) (f : Nat → PH → PR) : cA (some (some (.ref x), h)) f = f x h := rfl

-- PART: bells, the worth of nodes.
def iv (z : Int) : Int32 := Int32.ofInt z
def jv (z : Int) : Int64 := Int64.ofInt z
def Bd (z : Int) : Prop := -1000000 ≤ z ∧ z ≤ 1000000
def cl (z : Int) : Int := if z < -1000000 then -1000000 else if 1000000 < z then 1000000 else z
def so (k : Nat) (a b : Int) : Prop := if k = 9 then a ≠ 0 ∨ b ≠ 0 else if k = 10 then a ≠ 0 ∧ b ≠ 0 else if k = 11 then a = 0 else if k = 17 then a < b else if k = 18 then a ≤ b else if k = 19 then b < a else if k = 20 then b ≤ a else if k = 21 then a = b else if k = 22 then a ≠ b else False
theorem so_dec (k : Nat) (a b : Int) : so k a b ∨ ¬ so k a b := Classical.em _
noncomputable def z01 (P : Prop) : Int := @ite _ P (Classical.propDecidable P) 1 0
theorem z01_t {P : Prop} (h : P) : z01 P = 1 := if_pos h
theorem z01_f {P : Prop} (h : ¬ P) : z01 P = 0 := if_neg h
theorem z01_in (P : Prop) : z01 P = 0 ∨ z01 P = 1 := by
  by_cases h : P
  · exact Or.inr (z01_t h)
  · exact Or.inl (z01_f h)
noncomputable def jn (k : Nat) (a b : Int) : Int := if k = 23 then cl (a + b) else if k = 24 then cl (a - b) else if k = 25 then cl (a * b) else if k = 26 then (if b = 0 then 0 else a.tdiv b) else if k = 27 then (if b = 0 then 0 else a.tmod b) else if k = 28 then -a else z01 (so k a b)
theorem iv_toInt {z : Int} (h1 : -2147483648 ≤ z) (h2 : z < 2147483648) : (iv z).toInt = z := Int32.toInt_ofInt_of_le (by omega) (by omega)
theorem jv_toInt {z : Int} (h1 : -9223372036854775808 ≤ z) (h2 : z < 9223372036854775808) : (jv z).toInt = z := Int64.toInt_ofInt_of_le (by omega) (by omega)
theorem iv_of {x : Int32} : x = iv x.toInt := by
  have := x.le_toInt
  have := x.toInt_lt
  exact Int32.toInt_inj.mp (iv_toInt (by omega) (by omega)).symm
theorem iv_eq {x : Int32} {z : Int} (h : x.toInt = z) : x = iv z := by rw [← h]; exact iv_of
theorem jv_of {x : Int64} : x = jv x.toInt := by
  have := x.le_toInt
  have := x.toInt_lt
  exact Int64.toInt_inj.mp (jv_toInt (by omega) (by omega)).symm
theorem jv_eq {x : Int64} {z : Int} (h : x.toInt = z) : x = jv z := by rw [← h]; exact jv_of
theorem nI_iv (n : Nat) : nI n = iv n := by
  unfold nI iv
  exact (Int32.ofInt_eq_ofNat).symm
theorem iv_bd {z : Int} (h : Bd z) : (iv z).toInt = z := iv_toInt (by unfold Bd at h; omega) (by unfold Bd at h; omega)
theorem jv_bd {z : Int} (h : Bd z) : (jv z).toInt = z := jv_toInt (by unfold Bd at h; omega) (by unfold Bd at h; omega)
theorem cl_bd (z : Int) : Bd (cl z) := by
  unfold Bd cl
  split
  · omega
  · split <;> omega
theorem iv_inj {a b : Int} (ha : Bd a) (hb : Bd b) : (iv a = iv b) ↔ a = b := by
  constructor
  · intro q
    have := congrArg Int32.toInt q
    rw [iv_bd ha, iv_bd hb] at this
    exact this
  · intro q
    rw [q]
theorem iv_0 {a : Int} (ha : Bd a) : (iv a = nI 0) ↔ a = 0 := by
  have : nI 0 = iv 0 := nI_iv 0
  rw [this]
  exact iv_inj ha (by unfold Bd; omega)
theorem iv_lt {a b : Int} (ha : Bd a) (hb : Bd b) : (iv a < iv b) ↔ a < b := by rw [Int32.lt_iff_toInt_lt, iv_bd ha, iv_bd hb]
theorem iv_le {a b : Int} (ha : Bd a) (hb : Bd b) : (iv a ≤ iv b) ↔ a ≤ b := by rw [Int32.le_iff_toInt_le, iv_bd ha, iv_bd hb]
theorem mul_bd {a b : Int} (ha : Bd a) (hb : Bd b) : -1000000000000 ≤ a * b ∧ a * b ≤ 1000000000000 := by
  unfold Bd at ha hb
  have h1 : 0 ≤ (1000000 - a) * (1000000 + b) := Int.mul_nonneg (by omega) (by omega)
  have h2 : 0 ≤ (1000000 + a) * (1000000 - b) := Int.mul_nonneg (by omega) (by omega)
  have h3 : 0 ≤ (1000000 - a) * (1000000 - b) := Int.mul_nonneg (by omega) (by omega)
  have h4 : 0 ≤ (1000000 + a) * (1000000 + b) := Int.mul_nonneg (by omega) (by omega)
  simp only [Int.sub_mul, Int.add_mul, Int.mul_sub, Int.mul_add] at h1 h2 h3 h4
  constructor <;> omega
theorem tdiv_bd {a b : Int} (ha : Bd a) : Bd (a.tdiv b) := by
  unfold Bd at *
  have h1 := Int.natAbs_tdiv_le_natAbs a b
  omega
theorem tmod_bd {a b : Int} (ha : Bd a) : Bd (a.tmod b) := by
  unfold Bd at *
  have h1 : (a.tmod b).natAbs ≤ a.natAbs := by
    rw [Int.natAbs_tmod]
    exact Nat.mod_le _ _
  omega
theorem jn_bd {k : Nat} {a b : Int} (ha : Bd a) : Bd (jn k a b) := by
  have h0 : Bd 0 := by unfold Bd; omega
  have h1 : Bd 1 := by unfold Bd; omega
  unfold jn
  split
  · exact cl_bd _
  split
  · exact cl_bd _
  split
  · exact cl_bd _
  split
  · split
    · exact h0
    · exact tdiv_bd ha
  split
  · split
    · exact h0
    · exact tmod_bd ha
  split
  · unfold Bd at *
    omega
  · rcases z01_in (so k a b) with q | q <;> rw [q]
    · exact h0
    · exact h1
section Svals
variable {L : Nat}
theorem m133 (d : Nat) {x : Int64} (h : PH) : exec (g2 L) (d + 1) 133 [.long x] h = some (some (.int (iv (cl x.toInt))), h) := by
  have e1 : (1000000 : Int64).toInt = 1000000 := by decide
  have e2 : ((-1000000) : Int64).toInt = -1000000 := by decide
  have : (if (if x < (1000000 : Int64) then x else (1000000 : Int64)) < ((-1000000) : Int64) then ((-1000000) : Int64) else (if x < (1000000 : Int64) then x else (1000000 : Int64))).toInt32 = iv (cl x.toInt) := by
    apply iv_eq
    by_cases h1 : x < (1000000 : Int64)
    · rw [if_pos h1]
      rw [Int64.lt_iff_toInt_lt, e1] at h1
      by_cases h2 : x < ((-1000000) : Int64)
      · rw [if_pos h2]
        rw [Int64.lt_iff_toInt_lt, e2] at h2
        rw [Jvm.Kit.i32_of_i64 (by rw [e2]; decide) (by rw [e2]; decide), e2]
        unfold cl
        rw [if_pos h2]
      · rw [if_neg h2]
        rw [Int64.lt_iff_toInt_lt, e2] at h2
        rw [Jvm.Kit.i32_of_i64 (by omega) (by omega)]
        unfold cl
        rw [if_neg (by omega), if_neg (by omega)]
    · rw [if_neg h1, if_neg (by decide)]
      rw [Int64.lt_iff_toInt_lt, e1] at h1
      rw [Jvm.Kit.i32_of_i64 (by rw [e1]; decide) (by rw [e1]; decide), e1]
      unfold cl
      rw [if_neg (by omega)]
      split <;> omega
  rw [x133, this]
theorem ne_in {P : Prop} [Decidable P] {Q : Prop} (h : P ↔ ¬ Q) {g : PH} : (if P then some (some (Value.int (nI 0)), g) else some (some (.int (nI 1)), g)) = (some (some (.int (iv (z01 Q))), g) : PR) := by
  by_cases q : Q
  · rw [if_neg (fun z => (h.mp z) q), z01_t q, nI_iv]
    rfl
  · rw [if_pos (h.mpr q), z01_f q, nI_iv]
    rfl
theorem m134 (d : Nat) {k : Nat} {a b : Int} (ha : Bd a) (hb : Bd b) (hk : k < 29) (h : PH) : exec (g2 L) (d + 1) 134 [.int (nI k), .int (iv a), .int (iv b)] h = some (some (.int (iv (z01 (so k a b)))), h) := by
  have n : ∀ (j : Nat), j < 4294967296 → ((nI k = nI j) ↔ k = j) := fun j hj => nI_eqI (by omega) hj
  rw [x134]
  simp only [n 9 (by omega), n 10 (by omega), n 11 (by omega), n 12 (by omega), n 13 (by omega), n 14 (by omega), n 15 (by omega), n 16 (by omega), n 17 (by omega), n 18 (by omega), n 19 (by omega), n 20 (by omega), n 21 (by omega), n 22 (by omega)]
  unfold so
  by_cases k1 : k = 9
  · rw [if_pos k1, if_pos k1]
    by_cases z : a = 0
    · rw [if_neg (by rw [Ne, iv_0 ha]; exact not_not_intro z)]
      exact ne_in (by rw [iv_0 hb]; exact ⟨fun q1 q2 => by rcases q2 with q2 | q2 <;> contradiction, fun q1 => Classical.byContradiction fun q2 => q1 (Or.inr q2)⟩)
    · rw [if_pos (by rw [Ne, iv_0 ha]; exact z), z01_t (Or.inl z), nI_iv]
      rfl
  rw [if_neg k1, if_neg k1]
  by_cases k2 : k = 10
  · rw [if_pos k2, if_pos k2]
    by_cases z : a = 0
    · rw [if_pos ((iv_0 ha).mpr z), z01_f (fun q => q.1 z), nI_iv]
      rfl
    · rw [if_neg (by rw [iv_0 ha]; exact z)]
      exact ne_in (by rw [iv_0 hb]; exact ⟨fun q1 q2 => q2.2 q1, fun q1 => Classical.byContradiction fun q2 => q1 ⟨z, q2⟩⟩)
  rw [if_neg k2, if_neg k2]
  by_cases k3 : k = 11
  · rw [if_pos k3, if_pos k3]
    exact ne_in (by rw [Ne, iv_0 ha])
  rw [if_neg k3, if_neg k3]
  have no : ∀ j, 12 ≤ j → j ≤ 16 → k = j → ∀ g : PH, (some (some (Value.int (nI 0)), g) : PR) = some (some (.int (iv (z01 (if k = 17 then a < b else if k = 18 then a ≤ b else if k = 19 then b < a else if k = 20 then b ≤ a else if k = 21 then a = b else if k = 22 then a ≠ b else False)))), g) := by
    intro j j1 j2 e g
    rw [if_neg (by omega), if_neg (by omega), if_neg (by omega), if_neg (by omega), if_neg (by omega), if_neg (by omega), z01_f id, nI_iv]
    rfl
  by_cases k4 : k = 12
  · rw [if_pos k4]
    exact no 12 (by omega) (by omega) k4 h
  rw [if_neg k4]
  by_cases k5 : k = 13
  · rw [if_pos k5]
    exact no 13 (by omega) (by omega) k5 h
  rw [if_neg k5]
  by_cases k6 : k = 14
  · rw [if_pos k6]
    exact no 14 (by omega) (by omega) k6 h
  rw [if_neg k6]
  by_cases k7 : k = 15
  · rw [if_pos k7]
    exact no 15 (by omega) (by omega) k7 h
  rw [if_neg k7]
  by_cases k8 : k = 16
  · rw [if_pos k8]
    exact no 16 (by omega) (by omega) k8 h
  rw [if_neg k8]
  by_cases k9 : k = 17
  · rw [if_pos k9, if_pos k9]
    exact ne_in (by rw [iv_le hb ha]; omega)
  rw [if_neg k9, if_neg k9]
  by_cases k10 : k = 18
  · rw [if_pos k10, if_pos k10]
    exact ne_in (by rw [iv_lt hb ha]; omega)
  rw [if_neg k10, if_neg k10]
  by_cases k11 : k = 19
  · rw [if_pos k11, if_pos k11]
    exact ne_in (by rw [iv_le ha hb]; omega)
  rw [if_neg k11, if_neg k11]
  by_cases k12 : k = 20
  · rw [if_pos k12, if_pos k12]
    exact ne_in (by rw [iv_lt ha hb]; omega)
  rw [if_neg k12, if_neg k12]
  by_cases k13 : k = 21
  · rw [if_pos k13, if_pos k13]
    exact ne_in (by rw [Ne, iv_inj ha hb])
  rw [if_neg k13, if_neg k13]
  by_cases k14 : k = 22
  · rw [if_pos k14, if_pos k14]
    exact ne_in (by rw [iv_inj ha hb, Ne, Classical.not_not])
  rw [if_neg k14, if_neg k14, z01_f id, nI_iv]
  rfl
theorem m132 (d : Nat) {k : Nat} {a b : Int} (ha : Bd a) (hb : Bd b) (hk : k < 29) (h : PH) : exec (g2 L) (d + 2) 132 [.int (nI k), .int (iv a), .int (iv b)] h = some (some (.int (iv (jn k a b))), h) := by
  have n : ∀ (j : Nat), j < 4294967296 → ((nI k = nI j) ↔ k = j) := fun j hj => nI_eqI (by omega) hj
  rw [x132]
  simp only [n 23 (by omega), n 24 (by omega), n 25 (by omega), n 26 (by omega), n 27 (by omega), n 28 (by omega)]
  unfold jn
  by_cases k1 : k = 23
  · rw [if_pos k1, if_pos k1, m133, cI_s, lg_i2l_add, iv_bd ha, iv_bd hb]
  rw [if_neg k1, if_neg k1]
  by_cases k2 : k = 24
  · rw [if_pos k2, if_pos k2, m133, cI_s, lg_i2l_sub, iv_bd ha, iv_bd hb]
  rw [if_neg k2, if_neg k2]
  by_cases k3 : k = 25
  · have := mul_bd ha hb
    rw [if_pos k3, if_pos k3, m133, cI_s, Jvm.Kit.i64_mul (by rw [Jvm.Kit.i64_of_i32, Jvm.Kit.i64_of_i32, iv_bd ha, iv_bd hb]; omega) (by rw [Jvm.Kit.i64_of_i32, Jvm.Kit.i64_of_i32, iv_bd ha, iv_bd hb]; omega), Jvm.Kit.i64_of_i32, Jvm.Kit.i64_of_i32, iv_bd ha, iv_bd hb]
  rw [if_neg k3, if_neg k3]
  by_cases k4 : k = 26
  · rw [if_pos k4, if_pos k4]
    by_cases z : b = 0
    · rw [if_pos z, if_neg (by rw [Ne, iv_0 hb]; exact not_not_intro z), nI_iv]
      rfl
    · have e : iv a / iv b = iv (a.tdiv b) := by
        apply iv_eq
        rw [Jvm.Kit.i32_div (by rw [iv_bd ha]; unfold Bd at ha; omega), iv_bd ha, iv_bd hb]
      rw [if_neg z, if_pos (by rw [Ne, iv_0 hb]; exact z), if_neg (by rw [iv_0 hb]; exact z), e]
  rw [if_neg k4, if_neg k4]
  by_cases k5 : k = 27
  · rw [if_pos k5, if_pos k5]
    by_cases z : b = 0
    · rw [if_pos z, if_neg (by rw [Ne, iv_0 hb]; exact not_not_intro z), nI_iv]
      rfl
    · have e : iv a % iv b = iv (a.tmod b) := by
        apply iv_eq
        rw [Jvm.Kit.i32_rem, iv_bd ha, iv_bd hb]
      rw [if_neg z, if_pos (by rw [Ne, iv_0 hb]; exact z), if_neg (by rw [iv_0 hb]; exact z), e]
  rw [if_neg k5, if_neg k5]
  by_cases k6 : k = 28
  · have e : -(iv a) = iv (-a) := by
      apply iv_eq
      rw [Jvm.Kit.i32_neg (by rw [iv_bd ha]; unfold Bd at ha; omega), iv_bd ha]
    rw [if_pos k6, if_pos k6, e]
  rw [if_neg k6, if_neg k6, m134 d ha hb hk, cI_s]
  by_cases z : so k a b
  · rw [z01_t z, if_neg (by rw [iv_0 (by unfold Bd; omega)]; decide), nI_iv]
    rfl
  · rw [z01_f z, if_pos (by rw [iv_0 (by unfold Bd; omega)]), nI_iv]
    rfl
end Svals

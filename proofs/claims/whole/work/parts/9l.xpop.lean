-- PART: bitCount of larger numbers.
def pcn (w : Nat) : Nat := xsum (fun y => w / 2 ^ y % 2) 32
def pc8 (z : Nat) : Nat := xsum (fun y => z / 2 ^ y % 2) 8
theorem xsum_split (f : Nat → Nat) (m : Nat) : ∀ n, xsum f (m + n) = xsum f m + xsum (fun i => f (m + i)) n
  | 0 => rfl
  | n + 1 => by
    show xsum f (m + n) + f (m + n) = xsum f m + (xsum (fun i => f (m + i)) n + f (m + n))
    rw [xsum_split f m n]
    omega
theorem and_split (u v m n : Nat) (hv : v < 256) (hn : n < 256) : (256 * u + v) &&& (256 * m + n) = 256 * (u &&& m) + (v &&& n) := by
  have h1 := Nat.div_add_mod ((256 * u + v) &&& (256 * m + n)) 256
  have h2 : ((256 * u + v) &&& (256 * m + n)) % 256 = v &&& n := by
    have := Nat.and_mod_two_pow (a := 256 * u + v) (b := 256 * m + n) (n := 8)
    rw [show 2 ^ 8 = 256 from rfl] at this
    rw [this, show (256 * u + v) % 256 = v by omega, show (256 * m + n) % 256 = n by omega]
  have h3 : ((256 * u + v) &&& (256 * m + n)) / 256 = u &&& m := by
    have := Nat.and_div_two_pow (a := 256 * u + v) (b := 256 * m + n) (n := 8)
    rw [show 2 ^ 8 = 256 from rfl] at this
    rw [this, show (256 * u + v) / 256 = u by omega, show (256 * m + n) / 256 = m by omega]
  rw [← h1, h2, h3]
theorem and3 {a b c n : Nat} (ha : a < 256) (hb : b < 256) (hc : c < 256) (hn : n < 256) : (256 * (256 * c + b) + a) &&& (256 * (256 * (256 * n + n) + n) + n) = 256 * (256 * (c &&& n) + (b &&& n)) + (a &&& n) := by
  rw [and_split _ _ _ _ ha hn, and_split _ _ _ _ hb hn]
  have : c &&& (256 * n + n) = c &&& n := by
    have := and_split 0 c n n hc hn
    rw [Nat.mul_zero, Nat.zero_add, Nat.zero_and, Nat.mul_zero, Nat.zero_add] at this
    exact this
  rw [this]
def y1 (z : Nat) : Nat := z - (z / 2 &&& 85)
def y2 (z : Nat) : Nat := (z &&& 51) + (z / 4 &&& 51)
theorem y1_all : ∀ z, z < 256 → ∀ t, t < 2 → (z / 2 + 128 * t) &&& 85 = z / 2 &&& 85 ∧ (z / 2 &&& 85) ≤ z ∧ y1 z < 256 := by decide +kernel
theorem y2_all : ∀ z, z < 256 → ∀ t, t < 4 → (z / 4 + 64 * t) &&& 51 = z / 4 &&& 51 ∧ y2 z < 256 := by decide +kernel
theorem y3_all : ∀ z, z < 256 → y2 (y1 z) % 16 ≤ 4 ∧ y2 (y1 z) / 16 ≤ 4 ∧ (y2 (y1 z) + y2 (y1 z) / 16) % 16 = pc8 z ∧ pc8 z ≤ 8 := by decide +kernel
theorem us_nI {w : Nat} (hw : w < 4294967296) {n : Nat} (hn : n = 1 ∨ n = 2 ∨ n = 4 ∨ n = 8 ∨ n = 16) : us (nI w) n = nI (w / 2 ^ n) := by
  have e : ∀ k : UInt32, ((nI w).toUInt32 >>> k).toInt32.toBitVec.toNat = w >>> (k.toNat % 32) := by
    intro k
    show ((nI w).toUInt32 >>> k).toNat = _
    rw [UInt32.toNat_shiftRight]
    congr 1
    exact nI_toNat hw
  have l : w / 2 ^ n < 4294967296 := Nat.lt_of_le_of_lt (Nat.div_le_self _ _) hw
  apply Int32.toBitVec_inj.mp
  apply BitVec.eq_of_toNat_eq
  unfold us
  rw [e, nI_toNat l, Nat.shiftRight_eq_div_pow]
  rcases hn with rfl | rfl | rfl | rfl | rfl <;> rfl
theorem by3 {w : Nat} (hw : w < 16777216) : ∃ a b c, a < 256 ∧ b < 256 ∧ c < 256 ∧ w = 256 * (256 * c + b) + a := ⟨w % 256, w / 256 % 256, w / 65536, by omega, by omega, by omega, by omega⟩
theorem q1_of {a b c : Nat} (ha : a < 256) (hb : b < 256) (hc : c < 256) : pp1 (nI (256 * (256 * c + b) + a)) = nI (256 * (256 * y1 c + y1 b) + y1 a) := by
  have e := us_nI (w := 256 * (256 * c + b) + a) (by omega) (n := 1) (by omega)
  have d : (256 * (256 * c + b) + a) / 2 ^ 1 = 256 * (256 * (c / 2 + 128 * 0) + (b / 2 + 128 * (c % 2))) + (a / 2 + 128 * (b % 2)) := by omega
  obtain ⟨a1, a2, a3⟩ := y1_all a ha (b % 2) (by omega)
  obtain ⟨b1, b2', b3⟩ := y1_all b hb (c % 2) (by omega)
  obtain ⟨c1, c2, c3⟩ := y1_all c hc 0 (by omega)
  unfold pp1
  rw [e, d, nI_and, show (1431655765 : Nat) = 256 * (256 * (256 * 85 + 85) + 85) + 85 from rfl, and3 (by omega) (by omega) (by omega) (by omega), a1, b1, c1, nI_minus (by omega)]
  congr 1
  unfold y1
  omega
theorem q2_of {a b c : Nat} (ha : a < 256) (hb : b < 256) (hc : c < 256) : pp2 (nI (256 * (256 * c + b) + a)) = nI (256 * (256 * y2 c + y2 b) + y2 a) := by
  have e := us_nI (w := 256 * (256 * c + b) + a) (by omega) (n := 2) (by omega)
  have d : (256 * (256 * c + b) + a) / 2 ^ 2 = 256 * (256 * (c / 4 + 64 * 0) + (b / 4 + 64 * (c % 4))) + (a / 4 + 64 * (b % 4)) := by omega
  obtain ⟨a1, a2⟩ := y2_all a ha (b % 4) (by omega)
  obtain ⟨b1, b2'⟩ := y2_all b hb (c % 4) (by omega)
  obtain ⟨c1, c2⟩ := y2_all c hc 0 (by omega)
  unfold pp2
  rw [e, d, nI_and, nI_and, show (858993459 : Nat) = 256 * (256 * (256 * 51 + 51) + 51) + 51 from rfl, and3 ha hb hc (by omega), and3 (by omega) (by omega) (by omega) (by omega), a1, b1, c1, nI_plus]
  congr 1
  unfold y2
  omega
theorem q3_of {a b c : Nat} (ha : a % 16 ≤ 4 ∧ a / 16 ≤ 4) (hb : b % 16 ≤ 4 ∧ b / 16 ≤ 4) (hc : c % 16 ≤ 4 ∧ c / 16 ≤ 4) : pp3 (nI (256 * (256 * c + b) + a)) = nI (256 * (256 * ((c + c / 16) % 16) + (b + b / 16) % 16) + (a + a / 16) % 16) := by
  have e := us_nI (w := 256 * (256 * c + b) + a) (by omega) (n := 4) (by omega)
  have d : (256 * (256 * c + b) + a) / 2 ^ 4 = 256 * (256 * (c / 16) + (b / 16 + 16 * (c % 16))) + (a / 16 + 16 * (b % 16)) := by omega
  have m : ∀ x, x &&& 15 = x % 16 := fun x => Nat.and_two_pow_sub_one_eq_mod x 4
  unfold pp3
  rw [e, d, nI_plus, nI_and, show (252645135 : Nat) = 256 * (256 * (256 * 15 + 15) + 15) + 15 from rfl, show 256 * (256 * c + b) + a + (256 * (256 * (c / 16) + (b / 16 + 16 * (c % 16))) + (a / 16 + 16 * (b % 16))) = 256 * (256 * (c + c / 16) + (b + (b / 16 + 16 * (c % 16)))) + (a + (a / 16 + 16 * (b % 16))) by omega, and3 (by omega) (by omega) (by omega) (by omega), m, m, m]
  congr 1
  omega
theorem pcn_by {a b c : Nat} (ha : a < 256) (hb : b < 256) (hc : c < 256) : pcn (256 * (256 * c + b) + a) = pc8 a + pc8 b + pc8 c := by
  unfold pcn
  rw [xsum_split _ 8 24, xsum_split _ 8 16, xsum_split _ 8 8]
  have lo : ∀ x y, x < 256 → ∀ i, i < 8 → (256 * y + x) / 2 ^ i % 2 = x / 2 ^ i % 2 := by
    intro x y hx i hi
    have := bit_mod (M := 256 * y + x) (p := 8) hi
    rw [show (256 * y + x) % 2 ^ 8 = x by omega] at this
    exact this.symm
  have up : ∀ x y i, x < 256 → (256 * y + x) / 2 ^ (8 + i) % 2 = y / 2 ^ i % 2 := by
    intro x y i hx
    rw [Nat.pow_add, ← Nat.div_div_eq_div_mul, show (256 * y + x) / 2 ^ 8 = y by omega]
  have s1 : xsum (fun y => (256 * (256 * c + b) + a) / 2 ^ y % 2) 8 = pc8 a := xsum_congr _ (fun i hi => lo a _ ha i hi)
  have s2 : xsum (fun i => (256 * (256 * c + b) + a) / 2 ^ (8 + i) % 2) 8 = pc8 b := xsum_congr _ (fun i hi => by rw [up a _ i ha, lo b _ hb i hi])
  have s3 : xsum (fun i => (256 * (256 * c + b) + a) / 2 ^ (8 + (8 + i)) % 2) 8 = pc8 c := xsum_congr _ (fun i hi => by rw [up a _ _ ha, up b _ _ hb])
  have s4 : xsum (fun i => (256 * (256 * c + b) + a) / 2 ^ (8 + (8 + (8 + i))) % 2) 8 = 0 := by
    have : xsum (fun i => (256 * (256 * c + b) + a) / 2 ^ (8 + (8 + (8 + i))) % 2) 8 = xsum (fun _ => 0) 8 := xsum_congr _ (fun i hi => by
      rw [up a _ _ ha, up b _ _ hb]
      have := up c 0 i hc
      rw [Nat.mul_zero, Nat.zero_add, Nat.zero_div] at this
      exact this)
    rw [this]
    rfl
  rw [s1, s2, s3, s4]
  omega
theorem fin8 {p q t : Nat} (hp : p ≤ 8) (hq : q ≤ 8) (ht : t ≤ 8) : (256 * (256 * t + q) + p + (256 * (256 * t + q) + p) / 2 ^ 8 + (256 * (256 * t + q) + p + (256 * (256 * t + q) + p) / 2 ^ 8) / 2 ^ 16) % 2 ^ 6 = p + q + t := by
  have e1 : (256 * (256 * t + q) + p) / 2 ^ 8 = 256 * t + q := by omega
  have e2 : (256 * (256 * t + q) + p + (256 * t + q)) / 2 ^ 16 = t := by omega
  rw [e1, e2]
  omega
theorem m64g {L : Nat} (d : Nat) {w : Nat} (hw : w < 16777216) (h : PH) : exec (g2 L) (d + 1) 64 [.int (nI w)] h = some (some (.int (nI (pcn w))), h) ∧ pcn w ≤ 24 := by
  obtain ⟨a, b, c, ha, hb, hc, rfl⟩ := by3 hw
  have a1 := (y1_all a ha 0 (by omega)).2.2
  have b1 := (y1_all b hb 0 (by omega)).2.2
  have c1 := (y1_all c hc 0 (by omega)).2.2
  obtain ⟨a3, a4, a5, a6⟩ := y3_all a ha
  obtain ⟨b3, b4, b5, b6⟩ := y3_all b hb
  obtain ⟨c3, c4, c5, c6⟩ := y3_all c hc
  have e : (pp5 (pp4 (pp3 (pp2 (pp1 (nI (256 * (256 * c + b) + a))))))) &&& nI 63 = nI (pc8 a + pc8 b + pc8 c) := by
    rw [q1_of ha hb hc, q2_of a1 b1 c1, q3_of ⟨a3, a4⟩ ⟨b3, b4⟩ ⟨c3, c4⟩, a5, b5, c5]
    unfold pp4
    rw [us_nI (by omega) (by omega), nI_plus]
    unfold pp5
    rw [us_nI (by omega) (by omega), nI_plus, nI_and, show (63 : Nat) = 2 ^ 6 - 1 from rfl, Nat.and_two_pow_sub_one_eq_mod]
    congr 1
    exact fin8 a6 b6 c6
  refine ⟨?_, by rw [pcn_by ha hb hc]; omega⟩
  rw [x64, pcn_by ha hb hc, ← e]
  rfl

-- PART: bells, the worth of nodes, the reference's side.
def oc (k : Nat) : Nat := if k = 23 then 43 else if k = 24 then 45 else if k = 25 then 42 else if k = 26 then 47 else if k = 27 then 37 else if k = 17 then 60 else if k = 18 then 300 else if k = 19 then 62 else if k = 20 then 301 else if k = 21 then 61 else if k = 22 then 35 else if k = 10 then 406 else 407
theorem nI0 : nI 0 = (0 : Int32) := by decide
theorem jv_0 : jv 0 = (0 : Int64) := by decide
theorem jv_1 : jv 1 = (1 : Int64) := by decide
theorem jv_inj {a b : Int} (ha : Bd a) (hb : Bd b) : (jv a = jv b) ↔ a = b := by
  constructor
  · intro q
    have := congrArg Int64.toInt q
    rw [jv_bd ha, jv_bd hb] at this
    exact this
  · intro q
    rw [q]
theorem bd0 : Bd 0 := by unfold Bd; omega
theorem bd1 : Bd 1 := by unfold Bd; omega
theorem jv_z {a : Int} (ha : Bd a) : (jv a = 0) ↔ a = 0 := by
  rw [← jv_0]
  exact jv_inj ha bd0
theorem jv_lt {a b : Int} (ha : Bd a) (hb : Bd b) : (jv a < jv b) ↔ a < b := by rw [Int64.lt_iff_toInt_lt, jv_bd ha, jv_bd hb]
theorem jv_le {a b : Int} (ha : Bd a) (hb : Bd b) : (jv a ≤ jv b) ↔ a ≤ b := by rw [Int64.le_iff_toInt_le, jv_bd ha, jv_bd hb]
section Svalm
variable {L : Nat}
theorem ne_inJ {P : Prop} [Decidable P] {Q : Prop} (h : P ↔ ¬ Q) {g : PH} : (if P then some (some (Value.long 0), g) else some (some (.long 1), g)) = (some (some (.long (jv (z01 Q))), g) : PR) := by
  by_cases q : Q
  · rw [if_neg (fun z => (h.mp z) q), z01_t q, jv_1]
  · rw [if_pos (h.mpr q), z01_f q, jv_0]
theorem m247 (d : Nat) {x : Int64} (h : PH) : exec (g2 L) (d + 1) 247 [.long x] h = some (some (.long (jv (cl x.toInt))), h) := by
  have e1 : (1000000 : Int64).toInt = 1000000 := by decide
  have e2 : ((-1000000) : Int64).toInt = -1000000 := by decide
  rw [x247, nI0]
  by_cases h1 : lg_cmp x 1000000 ≤ 0
  · rw [if_pos h1]
    rw [lg_cmp_le, Int64.le_iff_toInt_le, e1] at h1
    by_cases h2 : 0 ≤ lg_cmp x (-1000000)
    · rw [if_pos h2]
      rw [lg_cmp_ge, Int64.le_iff_toInt_le, e2] at h2
      have : cl x.toInt = x.toInt := by
        unfold cl
        rw [if_neg (by omega), if_neg (by omega)]
      rw [this, ← jv_of]
    · rw [if_neg h2]
      rw [lg_cmp_ge, Int64.le_iff_toInt_le, e2] at h2
      have : cl x.toInt = -1000000 := by
        unfold cl
        rw [if_pos (by omega)]
      rw [this]
      rfl
  · rw [if_neg h1]
    rw [lg_cmp_le, Int64.le_iff_toInt_le, e1] at h1
    have : cl x.toInt = 1000000 := by
      unfold cl
      rw [if_neg (by omega), if_pos (by omega)]
    rw [this]
    rfl
theorem m246_9 (d : Nat) {a b : Int} (ha : Bd a) (hb : Bd b) (h01 : (a = 0 ∨ a = 1) ∧ (b = 0 ∨ b = 1)) (h : PH) : exec (g2 L) (d + 2) 246 [.int (nI (oc 9)), .long (jv a), .long (jv b)] h = some (some (.long (jv (jn 9 a b))), h) := by
  have hm := mul_bd ha hb
  have e : jn 9 a b = z01 (a ≠ 0 ∨ b ≠ 0) := rfl
  have hs : jv a + jv b = jv (a + b) := by
    apply jv_eq
    unfold Bd at ha hb
    rw [Jvm.Kit.i64_add (by rw [jv_bd ha, jv_bd hb]; omega) (by rw [jv_bd ha, jv_bd hb]; omega), jv_bd ha, jv_bd hb]
  rw [x246, show oc 9 = 407 from rfl, if_neg (by decide), if_neg (by decide), if_neg (by decide), if_neg (by decide), if_neg (by decide), if_neg (by decide), if_neg (by decide), if_neg (by decide), if_neg (by decide), if_neg (by decide), if_neg (by decide), if_neg (by decide), e, hs]
  have := h01
  have hb2 : Bd (a + b) := by unfold Bd; omega
  refine ne_inJ ?_
  rw [nI0, lg_cmp_le, ← jv_0, jv_le hb2 bd0]
  omega
theorem m246_10 (d : Nat) {a b : Int} (ha : Bd a) (hb : Bd b) (h01 : (a = 0 ∨ a = 1) ∧ (b = 0 ∨ b = 1)) (h : PH) : exec (g2 L) (d + 2) 246 [.int (nI (oc 10)), .long (jv a), .long (jv b)] h = some (some (.long (jv (jn 10 a b))), h) := by
  have hm := mul_bd ha hb
  have e : jn 10 a b = z01 (a ≠ 0 ∧ b ≠ 0) := rfl
  have hs : jv a * jv b = jv (a * b) := by
    apply jv_eq
    rw [Jvm.Kit.i64_mul (by rw [jv_bd ha, jv_bd hb]; omega) (by rw [jv_bd ha, jv_bd hb]; omega), jv_bd ha, jv_bd hb]
  rw [x246, show oc 10 = 406 from rfl, if_neg (by decide), if_neg (by decide), if_neg (by decide), if_neg (by decide), if_neg (by decide), if_neg (by decide), if_neg (by decide), if_neg (by decide), if_neg (by decide), if_neg (by decide), if_neg (by decide), if_pos (by decide), e, hs]
  obtain ⟨q1, q2⟩ := h01
  rcases q1 with rfl | rfl <;> rcases q2 with rfl | rfl
  · rw [z01_f (by decide)]; rfl
  · rw [z01_f (by decide)]; rfl
  · rw [z01_f (by decide)]; rfl
  · rw [z01_t (by decide)]; rfl
theorem m246_17 (d : Nat) {a b : Int} (ha : Bd a) (hb : Bd b) (h : PH) : exec (g2 L) (d + 2) 246 [.int (nI (oc 17)), .long (jv a), .long (jv b)] h = some (some (.long (jv (jn 17 a b))), h) := by
  have hm := mul_bd ha hb
  have e : jn 17 a b = z01 (a < b) := rfl
  rw [x246, show oc 17 = 60 from rfl, if_neg (by decide), if_neg (by decide), if_neg (by decide), if_neg (by decide), if_neg (by decide), if_neg (by decide), if_pos (by decide), e]
  exact ne_inJ (by rw [nI0, lg_cmp_ge, jv_le hb ha]; omega)
theorem m246_18 (d : Nat) {a b : Int} (ha : Bd a) (hb : Bd b) (h : PH) : exec (g2 L) (d + 2) 246 [.int (nI (oc 18)), .long (jv a), .long (jv b)] h = some (some (.long (jv (jn 18 a b))), h) := by
  have hm := mul_bd ha hb
  have e : jn 18 a b = z01 (a ≤ b) := rfl
  rw [x246, show oc 18 = 300 from rfl, if_neg (by decide), if_neg (by decide), if_neg (by decide), if_neg (by decide), if_neg (by decide), if_neg (by decide), if_neg (by decide), if_neg (by decide), if_neg (by decide), if_pos (by decide), e]
  exact ne_inJ (by rw [nI0, lg_cmp_gt, jv_lt hb ha]; omega)
theorem m246_19 (d : Nat) {a b : Int} (ha : Bd a) (hb : Bd b) (h : PH) : exec (g2 L) (d + 2) 246 [.int (nI (oc 19)), .long (jv a), .long (jv b)] h = some (some (.long (jv (jn 19 a b))), h) := by
  have hm := mul_bd ha hb
  have e : jn 19 a b = z01 (b < a) := rfl
  rw [x246, show oc 19 = 62 from rfl, if_neg (by decide), if_neg (by decide), if_neg (by decide), if_neg (by decide), if_neg (by decide), if_neg (by decide), if_neg (by decide), if_neg (by decide), if_pos (by decide), e]
  exact ne_inJ (by rw [nI0, lg_cmp_le, jv_le ha hb]; omega)
theorem m246_20 (d : Nat) {a b : Int} (ha : Bd a) (hb : Bd b) (h : PH) : exec (g2 L) (d + 2) 246 [.int (nI (oc 20)), .long (jv a), .long (jv b)] h = some (some (.long (jv (jn 20 a b))), h) := by
  have hm := mul_bd ha hb
  have e : jn 20 a b = z01 (b ≤ a) := rfl
  rw [x246, show oc 20 = 301 from rfl, if_neg (by decide), if_neg (by decide), if_neg (by decide), if_neg (by decide), if_neg (by decide), if_neg (by decide), if_neg (by decide), if_neg (by decide), if_neg (by decide), if_neg (by decide), if_pos (by decide), e]
  exact ne_inJ (by rw [nI0, lg_cmp_lt, jv_lt ha hb]; omega)
theorem m246_21 (d : Nat) {a b : Int} (ha : Bd a) (hb : Bd b) (h : PH) : exec (g2 L) (d + 2) 246 [.int (nI (oc 21)), .long (jv a), .long (jv b)] h = some (some (.long (jv (jn 21 a b))), h) := by
  have hm := mul_bd ha hb
  have e : jn 21 a b = z01 (a = b) := rfl
  rw [x246, show oc 21 = 61 from rfl, if_neg (by decide), if_neg (by decide), if_neg (by decide), if_neg (by decide), if_neg (by decide), if_neg (by decide), if_neg (by decide), if_pos (by decide), e]
  exact ne_inJ (by rw [nI0, Ne, lg_cmp_eq, jv_inj ha hb])
theorem m246_22 (d : Nat) {a b : Int} (ha : Bd a) (hb : Bd b) (h : PH) : exec (g2 L) (d + 2) 246 [.int (nI (oc 22)), .long (jv a), .long (jv b)] h = some (some (.long (jv (jn 22 a b))), h) := by
  have hm := mul_bd ha hb
  have e : jn 22 a b = z01 (a ≠ b) := rfl
  rw [x246, show oc 22 = 35 from rfl, if_pos (by decide), e]
  exact ne_inJ (by rw [nI0, lg_cmp_eq, jv_inj ha hb, Ne, Classical.not_not])
theorem m246_23 (d : Nat) {a b : Int} (ha : Bd a) (hb : Bd b) (h : PH) : exec (g2 L) (d + 2) 246 [.int (nI (oc 23)), .long (jv a), .long (jv b)] h = some (some (.long (jv (jn 23 a b))), h) := by
  have hm := mul_bd ha hb
  have e : jn 23 a b = cl (a + b) := rfl
  rw [x246, show oc 23 = 43 from rfl, if_neg (by decide), if_neg (by decide), if_neg (by decide), if_pos (by decide), m247, cJ_s, e, Jvm.Kit.i64_add (by rw [jv_bd ha, jv_bd hb]; unfold Bd at ha hb; omega) (by rw [jv_bd ha, jv_bd hb]; unfold Bd at ha hb; omega), jv_bd ha, jv_bd hb]
theorem m246_24 (d : Nat) {a b : Int} (ha : Bd a) (hb : Bd b) (h : PH) : exec (g2 L) (d + 2) 246 [.int (nI (oc 24)), .long (jv a), .long (jv b)] h = some (some (.long (jv (jn 24 a b))), h) := by
  have hm := mul_bd ha hb
  have e : jn 24 a b = cl (a - b) := by
    unfold jn
    rw [if_neg (by decide), if_pos rfl]
  rw [x246, show oc 24 = 45 from rfl, if_neg (by decide), if_neg (by decide), if_neg (by decide), if_neg (by decide), if_pos (by decide), m247, cJ_s, e, Jvm.Kit.i64_sub (by rw [jv_bd ha, jv_bd hb]; unfold Bd at ha hb; omega) (by rw [jv_bd ha, jv_bd hb]; unfold Bd at ha hb; omega), jv_bd ha, jv_bd hb]
theorem m246_25 (d : Nat) {a b : Int} (ha : Bd a) (hb : Bd b) (h : PH) : exec (g2 L) (d + 2) 246 [.int (nI (oc 25)), .long (jv a), .long (jv b)] h = some (some (.long (jv (jn 25 a b))), h) := by
  have hm := mul_bd ha hb
  have e : jn 25 a b = cl (a * b) := by
    unfold jn
    rw [if_neg (by decide), if_neg (by decide), if_pos rfl]
  rw [x246, show oc 25 = 42 from rfl, if_neg (by decide), if_neg (by decide), if_pos (by decide), m247, cJ_s, e, Jvm.Kit.i64_mul (by rw [jv_bd ha, jv_bd hb]; omega) (by rw [jv_bd ha, jv_bd hb]; omega), jv_bd ha, jv_bd hb]
theorem m246_26 (d : Nat) {a b : Int} (ha : Bd a) (hb : Bd b) (h : PH) : exec (g2 L) (d + 2) 246 [.int (nI (oc 26)), .long (jv a), .long (jv b)] h = some (some (.long (jv (jn 26 a b))), h) := by
  have hm := mul_bd ha hb
  have e : jn 26 a b = if b = 0 then 0 else a.tdiv b := rfl
  rw [x246, show oc 26 = 47 from rfl, if_neg (by decide), if_neg (by decide), if_neg (by decide), if_neg (by decide), if_neg (by decide), if_pos (by decide), e, nI0]
  by_cases z : b = 0
  · rw [if_neg (by rw [Ne, lg_cmp_eq, jv_z hb]; exact not_not_intro z), if_pos z, jv_0]
  · have e2 : jv a / jv b = jv (a.tdiv b) := by
      apply jv_eq
      rw [Jvm.Kit.i64_div (by rw [jv_bd ha]; unfold Bd at ha; omega), jv_bd ha, jv_bd hb]
    rw [if_pos (by rw [Ne, lg_cmp_eq, jv_z hb]; exact z), if_neg (by rw [jv_z hb]; exact z), if_neg z, e2]
theorem m246_27 (d : Nat) {a b : Int} (ha : Bd a) (hb : Bd b) (h : PH) : exec (g2 L) (d + 2) 246 [.int (nI (oc 27)), .long (jv a), .long (jv b)] h = some (some (.long (jv (jn 27 a b))), h) := by
  have hm := mul_bd ha hb
  have e : jn 27 a b = if b = 0 then 0 else a.tmod b := rfl
  rw [x246, show oc 27 = 37 from rfl, if_neg (by decide), if_pos (by decide), e, nI0]
  by_cases z : b = 0
  · rw [if_neg (by rw [Ne, lg_cmp_eq, jv_z hb]; exact not_not_intro z), if_pos z, jv_0]
  · have e2 : jv a % jv b = jv (a.tmod b) := by
      apply jv_eq
      rw [Int64.toInt_mod, jv_bd ha, jv_bd hb]
    rw [if_pos (by rw [Ne, lg_cmp_eq, jv_z hb]; exact z), if_neg (by rw [jv_z hb]; exact z), if_neg z, e2]
theorem m246 (d : Nat) {k : Nat} {a b : Int} (ha : Bd a) (hb : Bd b) (hk : (9 ≤ k ∧ k ≤ 10) ∨ (17 ≤ k ∧ k ≤ 27)) (h01 : k ≤ 10 → (a = 0 ∨ a = 1) ∧ (b = 0 ∨ b = 1)) (h : PH) : exec (g2 L) (d + 2) 246 [.int (nI (oc k)), .long (jv a), .long (jv b)] h = some (some (.long (jv (jn k a b))), h) := by
  have hk' : k = 9 ∨ k = 10 ∨ k = 17 ∨ k = 18 ∨ k = 19 ∨ k = 20 ∨ k = 21 ∨ k = 22 ∨ k = 23 ∨ k = 24 ∨ k = 25 ∨ k = 26 ∨ k = 27 := by omega
  rcases hk' with rfl | rfl | rfl | rfl | rfl | rfl | rfl | rfl | rfl | rfl | rfl | rfl | rfl
  · exact m246_9 d ha hb (h01 (by omega)) h
  · exact m246_10 d ha hb (h01 (by omega)) h
  · exact m246_17 d ha hb h
  · exact m246_18 d ha hb h
  · exact m246_19 d ha hb h
  · exact m246_20 d ha hb h
  · exact m246_21 d ha hb h
  · exact m246_22 d ha hb h
  · exact m246_23 d ha hb h
  · exact m246_24 d ha hb h
  · exact m246_25 d ha hb h
  · exact m246_26 d ha hb h
  · exact m246_27 d ha hb h
end Svalm

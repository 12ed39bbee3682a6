-- PART: strips, what the tape says (printed in part by a program of mine).
def ltr (c : Nat) : Bool := (Nat.ble 97 c && Nat.ble c 122) || (Nat.ble 65 c && Nat.ble c 90)
def dgt (c : Nat) : Bool := Nat.ble 48 c && Nat.ble c 57
def blk (c : Nat) : Bool := Nat.beq c 32 || Nat.beq c 10
theorem ltr_i {c : Nat} : ltr c = true ↔ (97 ≤ c ∧ c ≤ 122) ∨ (65 ≤ c ∧ c ≤ 90) := by
  unfold ltr
  rw [Bool.or_eq_true, Bool.and_eq_true, Bool.and_eq_true, Nat.ble_eq, Nat.ble_eq, Nat.ble_eq, Nat.ble_eq]
theorem dgt_i {c : Nat} : dgt c = true ↔ 48 ≤ c ∧ c ≤ 57 := by
  unfold dgt
  rw [Bool.and_eq_true, Nat.ble_eq, Nat.ble_eq]
theorem blk_i {c : Nat} : blk c = true ↔ c = 32 ∨ c = 10 := by
  unfold blk
  rw [Bool.or_eq_true, Nat.beq_eq, Nat.beq_eq]
/-- the first place from p on where P does not hold -/
def wh (T : Nat → Nat) (P : Nat → Bool) (t p : Nat) : Nat := if h : p < t ∧ P (T p) = true then wh T P t (p + 1) else p
termination_by t - p
decreasing_by omega
section Wh
variable {T : Nat → Nat} {P : Nat → Bool} {t : Nat}
theorem wh_go {p : Nat} (h1 : p < t) (h2 : P (T p) = true) : wh T P t p = wh T P t (p + 1) := by
  rw [wh, dif_pos ⟨h1, h2⟩]
theorem wh_no {p : Nat} (h : ¬ (p < t ∧ P (T p) = true)) : wh T P t p = p := by
  rw [wh, dif_neg h]
theorem wh_in : ∀ (u p : Nat), p + u = t → p ≤ wh T P t p ∧ wh T P t p ≤ t ∧ (∀ k, p ≤ k → k < wh T P t p → P (T k) = true) ∧ (wh T P t p < t → P (T (wh T P t p)) = false) := by
  intro u
  induction u with
  | zero =>
    intro p hp
    rw [wh_no (by omega)]
    exact ⟨Nat.le_refl _, by omega, fun k h1 h2 => by omega, fun q => by omega⟩
  | succ u ih =>
    intro p hp
    by_cases h : P (T p) = true
    · obtain ⟨a1, a2, a3, a4⟩ := ih (p + 1) (by omega)
      rw [wh_go (by omega) h]
      refine ⟨by omega, a2, fun k h1 h2 => ?_, a4⟩
      by_cases e : k = p
      · rw [e]; exact h
      · exact a3 k (by omega) h2
    · rw [wh_no (fun q => h q.2)]
      exact ⟨Nat.le_refl _, by omega, fun k h1 h2 => by omega, fun _ => Bool.eq_false_iff.mpr h⟩
end Wh
/-- the letters as a number -/
def hv (T : Nat → Nat) (p : Nat) : Nat → Nat
  | 0 => 0
  | n + 1 => 64 * hv T p n + (T (p + n) - 64)
def wkv (x n : Nat) : Nat := if 7 < n then 1 else if x = 13278119 then 3 else if x = 13262068 then 4 else if x = 14584174 then 5 else if x = 3058 then 9 else if x = 138148 then 10 else if x = 191476 then 11 else if x = 49018527013 then 12 else if x = 10681714 then 13 else if x = 598931691 then 14 else if x = 149625 then 15 else if x = 9575717 then 16 else 1
def nvC (T : Nat → Nat) (p : Nat) : Nat → Nat
  | 0 => 0
  | n + 1 => if nvC T p n * 10 + T (p + n) - 48 < 10000 then nvC T p n * 10 + T (p + n) - 48 else 10000
def sgk (c : Nat) : Nat := if c = 35 then 22 else if c = 37 then 27 else if c = 40 then 6 else if c = 41 then 7 else if c = 42 then 25 else if c = 43 then 23 else if c = 45 then 24 else if c = 47 then 26 else if c = 59 then 8 else if c = 60 then 17 else if c = 61 then 21 else if c = 62 then 19 else 1
def tkE (T : Nat → Nat) (t p : Nat) : Nat := if ltr (T p) = true then wh T ltr t p else if dgt (T p) = true then wh T dgt t p else if (T p = 60 ∨ T p = 62) ∧ p + 1 < t ∧ T (p + 1) = 61 then p + 2 else p + 1
def tkK (T : Nat → Nat) (t p : Nat) : Nat := if ltr (T p) = true then wkv (hv T p (wh T ltr t p - p)) (wh T ltr t p - p) else if dgt (T p) = true then 2 else if (T p = 60 ∨ T p = 62) ∧ p + 1 < t ∧ T (p + 1) = 61 then (if T p = 60 then 18 else 20) else sgk (T p)
def tkV (T : Nat → Nat) (t p : Nat) : Nat := if dgt (T p) = true then nvC T p (wh T dgt t p - p) else 0
def ps (T : Nat → Nat) (t : Nat) : Nat → Nat
  | 0 => wh T blk t 0
  | j + 1 => wh T blk t (tkE T t (ps T t j))
theorem nvC_le {T : Nat → Nat} {p : Nat} : ∀ n, nvC T p n ≤ 10000
  | 0 => Nat.zero_le _
  | n + 1 => by
    rw [nvC]
    split <;> omega
theorem hv_lt {T : Nat → Nat} {p : Nat} (hT : ∀ k, T k < 128) : ∀ n, hv T p n < 64 ^ n
  | 0 => Nat.one_pos
  | n + 1 => by
    have := hv_lt hT (p := p) n
    have := hT (p + n)
    rw [hv, Nat.pow_succ]
    omega

theorem hv_inj {T T' : Nat → Nat} {p p' : Nat} : ∀ (n n' : Nat), (∀ k, k < n → 65 ≤ T (p + k) ∧ T (p + k) ≤ 122) → (∀ k, k < n' → 65 ≤ T' (p' + k) ∧ T' (p' + k) ≤ 122) → hv T p n = hv T' p' n' → n = n' ∧ ∀ k, k < n → T (p + k) = T' (p' + k)
  | 0, 0, _, _, _ => ⟨rfl, fun k hk => absurd hk (Nat.not_lt_zero _)⟩
  | 0, n' + 1, _, h2, he => by
    have := h2 n' (by omega)
    rw [hv, hv] at he
    omega
  | n + 1, 0, h1, _, he => by
    have := h1 n (by omega)
    rw [hv, hv] at he
    omega
  | n + 1, n' + 1, h1, h2, he => by
    have a1 := h1 n (by omega)
    have a2 := h2 n' (by omega)
    rw [hv, hv] at he
    have e1 : hv T p n = hv T' p' n' := by omega
    have e2 : T (p + n) = T' (p' + n') := by omega
    obtain ⟨i1, i2⟩ := hv_inj n n' (fun k hk => h1 k (by omega)) (fun k hk => h2 k (by omega)) e1
    subst i1
    refine ⟨rfl, fun k hk => ?_⟩
    by_cases e : k = n
    · rw [e]; exact e2
    · exact i2 k (by omega)
theorem wl_0 {T : Nat → Nat} {p n : Nat} (hl : ∀ k, k < n → 65 ≤ T (p + k) ∧ T (p + k) ≤ 122) : hv T p n = 13278119 ↔ n = 4 ∧ T (p + 0) = 114 ∧ T (p + 1) = 105 ∧ T (p + 2) = 110 ∧ T (p + 3) = 103 := by
  have e : hv (fun k => [114, 105, 110, 103].getD k 0) 0 4 = 13278119 := by decide
  have hw : ∀ k, k < 4 → 65 ≤ (fun k => [114, 105, 110, 103].getD k 0) (0 + k) ∧ (fun k => [114, 105, 110, 103].getD k 0) (0 + k) ≤ 122 := by decide
  constructor
  · intro q
    rw [← e] at q
    obtain ⟨i1, i2⟩ := hv_inj n 4 hl hw q
    subst i1
    exact ⟨rfl, i2 0 (by omega), i2 1 (by omega), i2 2 (by omega), i2 3 (by omega)⟩
  · rintro ⟨rfl, q0, q1, q2, q3⟩
    simp only [hv, q0, q1, q2, q3]
theorem wl_1 {T : Nat → Nat} {p n : Nat} (hl : ∀ k, k < n → 65 ≤ T (p + k) ∧ T (p + k) ≤ 122) : hv T p n = 13262068 ↔ n = 4 ∧ T (p + 0) = 114 ∧ T (p + 1) = 101 ∧ T (p + 2) = 115 ∧ T (p + 3) = 116 := by
  have e : hv (fun k => [114, 101, 115, 116].getD k 0) 0 4 = 13262068 := by decide
  have hw : ∀ k, k < 4 → 65 ≤ (fun k => [114, 101, 115, 116].getD k 0) (0 + k) ∧ (fun k => [114, 101, 115, 116].getD k 0) (0 + k) ≤ 122 := by decide
  constructor
  · intro q
    rw [← e] at q
    obtain ⟨i1, i2⟩ := hv_inj n 4 hl hw q
    subst i1
    exact ⟨rfl, i2 0 (by omega), i2 1 (by omega), i2 2 (by omega), i2 3 (by omega)⟩
  · rintro ⟨rfl, q0, q1, q2, q3⟩
    simp only [hv, q0, q1, q2, q3]
theorem wl_2 {T : Nat → Nat} {p n : Nat} (hl : ∀ k, k < n → 65 ≤ T (p + k) ∧ T (p + k) ≤ 122) : hv T p n = 14584174 ↔ n = 4 ∧ T (p + 0) = 119 ∧ T (p + 1) = 104 ∧ T (p + 2) = 101 ∧ T (p + 3) = 110 := by
  have e : hv (fun k => [119, 104, 101, 110].getD k 0) 0 4 = 14584174 := by decide
  have hw : ∀ k, k < 4 → 65 ≤ (fun k => [119, 104, 101, 110].getD k 0) (0 + k) ∧ (fun k => [119, 104, 101, 110].getD k 0) (0 + k) ≤ 122 := by decide
  constructor
  · intro q
    rw [← e] at q
    obtain ⟨i1, i2⟩ := hv_inj n 4 hl hw q
    subst i1
    exact ⟨rfl, i2 0 (by omega), i2 1 (by omega), i2 2 (by omega), i2 3 (by omega)⟩
  · rintro ⟨rfl, q0, q1, q2, q3⟩
    simp only [hv, q0, q1, q2, q3]
theorem wl_3 {T : Nat → Nat} {p n : Nat} (hl : ∀ k, k < n → 65 ≤ T (p + k) ∧ T (p + k) ≤ 122) : hv T p n = 3058 ↔ n = 2 ∧ T (p + 0) = 111 ∧ T (p + 1) = 114 := by
  have e : hv (fun k => [111, 114].getD k 0) 0 2 = 3058 := by decide
  have hw : ∀ k, k < 2 → 65 ≤ (fun k => [111, 114].getD k 0) (0 + k) ∧ (fun k => [111, 114].getD k 0) (0 + k) ≤ 122 := by decide
  constructor
  · intro q
    rw [← e] at q
    obtain ⟨i1, i2⟩ := hv_inj n 2 hl hw q
    subst i1
    exact ⟨rfl, i2 0 (by omega), i2 1 (by omega)⟩
  · rintro ⟨rfl, q0, q1⟩
    simp only [hv, q0, q1]
theorem wl_4 {T : Nat → Nat} {p n : Nat} (hl : ∀ k, k < n → 65 ≤ T (p + k) ∧ T (p + k) ≤ 122) : hv T p n = 138148 ↔ n = 3 ∧ T (p + 0) = 97 ∧ T (p + 1) = 110 ∧ T (p + 2) = 100 := by
  have e : hv (fun k => [97, 110, 100].getD k 0) 0 3 = 138148 := by decide
  have hw : ∀ k, k < 3 → 65 ≤ (fun k => [97, 110, 100].getD k 0) (0 + k) ∧ (fun k => [97, 110, 100].getD k 0) (0 + k) ≤ 122 := by decide
  constructor
  · intro q
    rw [← e] at q
    obtain ⟨i1, i2⟩ := hv_inj n 3 hl hw q
    subst i1
    exact ⟨rfl, i2 0 (by omega), i2 1 (by omega), i2 2 (by omega)⟩
  · rintro ⟨rfl, q0, q1, q2⟩
    simp only [hv, q0, q1, q2]
theorem wl_5 {T : Nat → Nat} {p n : Nat} (hl : ∀ k, k < n → 65 ≤ T (p + k) ∧ T (p + k) ≤ 122) : hv T p n = 191476 ↔ n = 3 ∧ T (p + 0) = 110 ∧ T (p + 1) = 111 ∧ T (p + 2) = 116 := by
  have e : hv (fun k => [110, 111, 116].getD k 0) 0 3 = 191476 := by decide
  have hw : ∀ k, k < 3 → 65 ≤ (fun k => [110, 111, 116].getD k 0) (0 + k) ∧ (fun k => [110, 111, 116].getD k 0) (0 + k) ≤ 122 := by decide
  constructor
  · intro q
    rw [← e] at q
    obtain ⟨i1, i2⟩ := hv_inj n 3 hl hw q
    subst i1
    exact ⟨rfl, i2 0 (by omega), i2 1 (by omega), i2 2 (by omega)⟩
  · rintro ⟨rfl, q0, q1, q2⟩
    simp only [hv, q0, q1, q2]
theorem wl_6 {T : Nat → Nat} {p n : Nat} (hl : ∀ k, k < n → 65 ≤ T (p + k) ∧ T (p + k) ≤ 122) : hv T p n = 49018527013 ↔ n = 6 ∧ T (p + 0) = 109 ∧ T (p + 1) = 105 ∧ T (p + 2) = 110 ∧ T (p + 3) = 117 ∧ T (p + 4) = 116 ∧ T (p + 5) = 101 := by
  have e : hv (fun k => [109, 105, 110, 117, 116, 101].getD k 0) 0 6 = 49018527013 := by decide
  have hw : ∀ k, k < 6 → 65 ≤ (fun k => [109, 105, 110, 117, 116, 101].getD k 0) (0 + k) ∧ (fun k => [109, 105, 110, 117, 116, 101].getD k 0) (0 + k) ≤ 122 := by decide
  constructor
  · intro q
    rw [← e] at q
    obtain ⟨i1, i2⟩ := hv_inj n 6 hl hw q
    subst i1
    exact ⟨rfl, i2 0 (by omega), i2 1 (by omega), i2 2 (by omega), i2 3 (by omega), i2 4 (by omega), i2 5 (by omega)⟩
  · rintro ⟨rfl, q0, q1, q2, q3, q4, q5⟩
    simp only [hv, q0, q1, q2, q3, q4, q5]
theorem wl_7 {T : Nat → Nat} {p n : Nat} (hl : ∀ k, k < n → 65 ≤ T (p + k) ∧ T (p + k) ≤ 122) : hv T p n = 10681714 ↔ n = 4 ∧ T (p + 0) = 104 ∧ T (p + 1) = 111 ∧ T (p + 2) = 117 ∧ T (p + 3) = 114 := by
  have e : hv (fun k => [104, 111, 117, 114].getD k 0) 0 4 = 10681714 := by decide
  have hw : ∀ k, k < 4 → 65 ≤ (fun k => [104, 111, 117, 114].getD k 0) (0 + k) ∧ (fun k => [104, 111, 117, 114].getD k 0) (0 + k) ≤ 122 := by decide
  constructor
  · intro q
    rw [← e] at q
    obtain ⟨i1, i2⟩ := hv_inj n 4 hl hw q
    subst i1
    exact ⟨rfl, i2 0 (by omega), i2 1 (by omega), i2 2 (by omega), i2 3 (by omega)⟩
  · rintro ⟨rfl, q0, q1, q2, q3⟩
    simp only [hv, q0, q1, q2, q3]
theorem wl_8 {T : Nat → Nat} {p n : Nat} (hl : ∀ k, k < n → 65 ≤ T (p + k) ∧ T (p + k) ≤ 122) : hv T p n = 598931691 ↔ n = 5 ∧ T (p + 0) = 99 ∧ T (p + 1) = 108 ∧ T (p + 2) = 111 ∧ T (p + 3) = 99 ∧ T (p + 4) = 107 := by
  have e : hv (fun k => [99, 108, 111, 99, 107].getD k 0) 0 5 = 598931691 := by decide
  have hw : ∀ k, k < 5 → 65 ≤ (fun k => [99, 108, 111, 99, 107].getD k 0) (0 + k) ∧ (fun k => [99, 108, 111, 99, 107].getD k 0) (0 + k) ≤ 122 := by decide
  constructor
  · intro q
    rw [← e] at q
    obtain ⟨i1, i2⟩ := hv_inj n 5 hl hw q
    subst i1
    exact ⟨rfl, i2 0 (by omega), i2 1 (by omega), i2 2 (by omega), i2 3 (by omega), i2 4 (by omega)⟩
  · rintro ⟨rfl, q0, q1, q2, q3, q4⟩
    simp only [hv, q0, q1, q2, q3, q4]
theorem wl_9 {T : Nat → Nat} {p n : Nat} (hl : ∀ k, k < n → 65 ≤ T (p + k) ∧ T (p + k) ≤ 122) : hv T p n = 149625 ↔ n = 3 ∧ T (p + 0) = 100 ∧ T (p + 1) = 97 ∧ T (p + 2) = 121 := by
  have e : hv (fun k => [100, 97, 121].getD k 0) 0 3 = 149625 := by decide
  have hw : ∀ k, k < 3 → 65 ≤ (fun k => [100, 97, 121].getD k 0) (0 + k) ∧ (fun k => [100, 97, 121].getD k 0) (0 + k) ≤ 122 := by decide
  constructor
  · intro q
    rw [← e] at q
    obtain ⟨i1, i2⟩ := hv_inj n 3 hl hw q
    subst i1
    exact ⟨rfl, i2 0 (by omega), i2 1 (by omega), i2 2 (by omega)⟩
  · rintro ⟨rfl, q0, q1, q2⟩
    simp only [hv, q0, q1, q2]
theorem wl_10 {T : Nat → Nat} {p n : Nat} (hl : ∀ k, k < n → 65 ≤ T (p + k) ∧ T (p + k) ≤ 122) : hv T p n = 9575717 ↔ n = 4 ∧ T (p + 0) = 100 ∧ T (p + 1) = 97 ∧ T (p + 2) = 116 ∧ T (p + 3) = 101 := by
  have e : hv (fun k => [100, 97, 116, 101].getD k 0) 0 4 = 9575717 := by decide
  have hw : ∀ k, k < 4 → 65 ≤ (fun k => [100, 97, 116, 101].getD k 0) (0 + k) ∧ (fun k => [100, 97, 116, 101].getD k 0) (0 + k) ≤ 122 := by decide
  constructor
  · intro q
    rw [← e] at q
    obtain ⟨i1, i2⟩ := hv_inj n 4 hl hw q
    subst i1
    exact ⟨rfl, i2 0 (by omega), i2 1 (by omega), i2 2 (by omega), i2 3 (by omega)⟩
  · rintro ⟨rfl, q0, q1, q2, q3⟩
    simp only [hv, q0, q1, q2, q3]
section Slex
variable {L : Nat} {T : Nat → Nat} {t : Nat}
/-- the class's tape under its reader: the text, its length, the place, the number of tokens -/
def TX (h : PH) (T : Nat → Nat) (t p sz : Nat) : Prop := (∀ k, k < t → hI h 206 k = nI (T k)) ∧ hI h 208 6 = nI t ∧ hI h 208 7 = nI p ∧ hI h 208 3 = nI sz
theorem TX.at {h : PH} {p p' sz : Nat} (hX : TX h T t p sz) : TX (wI h 208 7 (nI p')) T t p' sz := ⟨fun k hk => by rw [wI_ne (by omega)]; exact hX.1 k hk, by rw [hI_wI, if_neg (by omega)]; exact hX.2.1, by rw [hI_wI, if_pos ⟨rfl, rfl⟩], by rw [hI_wI, if_neg (by omega)]; exact hX.2.2.2⟩
theorem m98 (d : Nat) {c : Nat} (hc : c < 256) (h : PH) : exec (g2 L) (d + 1) 98 [.int (nI c)] h = some (some (.int (if ltr c = true then nI 1 else nI 0)), h) := by
  rw [x98]
  simp only [nI_ltN (show c < 2147483648 by omega) (show 97 < 2147483648 by omega), nI_ltN (show c < 2147483648 by omega) (show 65 < 2147483648 by omega), nI_ltN (show 90 < 2147483648 by omega) (show c < 2147483648 by omega), nI_leN (show c < 2147483648 by omega) (show 122 < 2147483648 by omega)]
  have := @ltr_i c
  by_cases z : ltr c = true
  · rw [if_pos z]
    rcases this.mp z with q | q
    · rw [if_neg (by omega), if_pos (by omega)]
    · rw [if_pos (by omega), if_neg (by omega), if_neg (by omega)]
  · rw [if_neg z]
    have q : ¬ ((97 ≤ c ∧ c ≤ 122) ∨ (65 ≤ c ∧ c ≤ 90)) := fun q => z (this.mpr q)
    by_cases a : c < 97
    · rw [if_pos a]
      by_cases b : c < 65
      · rw [if_pos b]
      · rw [if_neg b, if_pos (by omega)]
    · rw [if_neg a, if_neg (by omega), if_neg (by omega), if_pos (by omega)]
theorem m101 (d : Nat) {c : Nat} (hc : c < 256) (h : PH) : exec (g2 L) (d + 1) 101 [.int (nI c)] h = some (some (.int (if dgt c = true then nI 1 else nI 0)), h) := by
  rw [x101]
  simp only [nI_ltN (show c < 2147483648 by omega) (show 48 < 2147483648 by omega), nI_ltN (show 57 < 2147483648 by omega) (show c < 2147483648 by omega)]
  have := @dgt_i c
  by_cases z : dgt c = true
  · have q := this.mp z
    rw [if_pos z, if_neg (by omega), if_neg (by omega)]
  · have q : ¬ (48 ≤ c ∧ c ≤ 57) := fun q => z (this.mpr q)
    rw [if_neg z]
    by_cases a : c < 48
    · rw [if_pos a]
    · rw [if_neg a, if_pos (by omega)]
theorem m96 {d sz : Nat} (ht : t ≤ 300) : ∀ (u p : Nat) (h : PH), p + u = t → TX h T t p sz → (∀ k, T k < 256) → ∃ h', runL (g2 L) d 9 false (some .boolean) kc_96 0 [.ref 208] [] h = some (some (.int (if wh T blk t p < t then nI 1 else nI 0)), h') ∧ TX h' T t (wh T blk t p) sz ∧ (∀ a, a ≠ 208 → hI h' a = hI h a) ∧ hR h' = hR h := by
  intro u
  induction u with
  | zero =>
    intro p h hp hX hT
    refine ⟨h, ?_, ?_, fun _ _ => rfl, rfl⟩
    · rw [wh_no (by omega), e96_0, hX.2.1, hX.2.2.1, if_pos (by rw [nI_leN (by omega) (by omega)]; omega), if_pos (by rw [nI_leN (by omega) (by omega)]; omega), if_neg (by omega)]
    · rw [wh_no (by omega)]
      exact hX
  | succ u ih =>
    intro p h hp hX hT
    have t1 := hT p
    have s0 := e96_0 L d h
    rw [hX.2.1, hX.2.2.1, if_neg (by rw [nI_leN (by omega) (by omega)]; omega), inB_nI (by omega), asr_d (by omega), asr_d (by omega), ix_nI (by omega), hX.1 p (by omega), nI_plus] at s0
    have go : blk (T p) = true → runL (g2 L) d 9 false (some .boolean) kc_96 0 [.ref 208] [] h = runL (g2 L) d 9 false (some .boolean) kc_96 0 [.ref 208] [] (wI h 208 7 (nI (p + 1))) := by
      intro z
      rw [s0]
      rcases blk_i.mp z with q | q
      · rw [if_pos (by rw [q])]
      · rw [if_neg (by rw [q]; decide), if_neg (by rw [q]; exact fun w => w rfl)]
    by_cases z : blk (T p) = true
    · obtain ⟨h', r1, r2, r3, r4⟩ := ih (p + 1) (wI h 208 7 (nI (p + 1))) (by omega) hX.at hT
      rw [wh_go (by omega) z]
      exact ⟨h', (go z).trans r1, r2, fun a ha => by rw [r3 a ha, wI_ne ha], r4⟩
    · have q : ¬ (T p = 32 ∨ T p = 10) := fun q => z (blk_i.mpr q)
      rw [wh_no (fun w => z w.2), if_pos (by omega)]
      refine ⟨h, ?_, hX, fun _ _ => rfl, rfl⟩
      rw [s0, if_neg (by rw [nI_eqI (by omega) (by omega)]; omega), if_pos (by rw [Ne, nI_eqI (by omega) (by omega)]; omega), if_neg (by rw [nI_leN (by omega) (by omega)]; omega)]

theorem m100_0 (d : Nat) {p e sz : Nat} {h : PH} (ht : t ≤ 300) (hT : ∀ k, T k < 256) (hX : TX h T t e sz) (hz : sz ≤ 300) (hp : p ≤ e) (he : e ≤ t) (h10 : hI h 210 sz = nI p) (hl : ∀ k, p ≤ k → k < e → ltr (T k) = true) : exec (g2 L) (d + 1) 100 [.ref 208, .retAddr 0] h = some (some (.int (if e - p ≤ 7 ∧ hv T p (e - p) = 13278119 then nI 1 else nI 0)), h) := by
  have s := x100s0 L d h
  rw [hX.2.2.2, inB_nI (by omega), asr_d (by omega), ix_nI (by omega), hX.2.2.1, h10, nI_minus hp] at s
  rw [s]
  by_cases hn : 4 = e - p
  · have wl := wl_0 (T := T) (p := p) (n := e - p) (fun k hk => by
      rcases ltr_i.mp (hl (p + k) (by omega) (by omega)) with q | q <;> omega)
    have fin : runL (g2 L) d 9 false (some .boolean) kc_100 27 [.ref 208, .retAddr 0, .int (nI p), .int (nI 4)] [] h = some (some (.int (nI 1)), h) := by
      rw [e100_27s0, if_pos (by decide)]
    rw [if_pos (by rw [hn])]
    have t0 := hT (p + 0)
    have st0 : runL (g2 L) d 9 false (some .boolean) kc_100 27 [.ref 208, .retAddr 0, .int (nI p), .int (nI 0)] [] h = if T (p + 0) = 114 then runL (g2 L) d 9 false (some .boolean) kc_100 27 [.ref 208, .retAddr 0, .int (nI p), .int (nI 1)] [] h else some (some (.int (nI 0)), h) := by
      rw [e100_27s0, if_neg (by decide), inB_nI (by omega), asr_d (by omega), nI_plus, inB_nI (by omega), asr_d (by omega), ix_nI (by omega), ix_nI (by omega), hX.1 (p + 0) (by omega), show schr 0 0 = nI 114 by decide, nI_plus]
      by_cases q : T (p + 0) = 114
      · rw [if_pos (by rw [q]), if_pos q]
      · rw [if_neg (by rw [nI_eqI (by omega) (by omega)]; omega), if_neg q]
    have t1 := hT (p + 1)
    have st1 : runL (g2 L) d 9 false (some .boolean) kc_100 27 [.ref 208, .retAddr 0, .int (nI p), .int (nI 1)] [] h = if T (p + 1) = 105 then runL (g2 L) d 9 false (some .boolean) kc_100 27 [.ref 208, .retAddr 0, .int (nI p), .int (nI 2)] [] h else some (some (.int (nI 0)), h) := by
      rw [e100_27s0, if_neg (by decide), inB_nI (by omega), asr_d (by omega), nI_plus, inB_nI (by omega), asr_d (by omega), ix_nI (by omega), ix_nI (by omega), hX.1 (p + 1) (by omega), show schr 0 1 = nI 105 by decide, nI_plus]
      by_cases q : T (p + 1) = 105
      · rw [if_pos (by rw [q]), if_pos q]
      · rw [if_neg (by rw [nI_eqI (by omega) (by omega)]; omega), if_neg q]
    have t2 := hT (p + 2)
    have st2 : runL (g2 L) d 9 false (some .boolean) kc_100 27 [.ref 208, .retAddr 0, .int (nI p), .int (nI 2)] [] h = if T (p + 2) = 110 then runL (g2 L) d 9 false (some .boolean) kc_100 27 [.ref 208, .retAddr 0, .int (nI p), .int (nI 3)] [] h else some (some (.int (nI 0)), h) := by
      rw [e100_27s0, if_neg (by decide), inB_nI (by omega), asr_d (by omega), nI_plus, inB_nI (by omega), asr_d (by omega), ix_nI (by omega), ix_nI (by omega), hX.1 (p + 2) (by omega), show schr 0 2 = nI 110 by decide, nI_plus]
      by_cases q : T (p + 2) = 110
      · rw [if_pos (by rw [q]), if_pos q]
      · rw [if_neg (by rw [nI_eqI (by omega) (by omega)]; omega), if_neg q]
    have t3 := hT (p + 3)
    have st3 : runL (g2 L) d 9 false (some .boolean) kc_100 27 [.ref 208, .retAddr 0, .int (nI p), .int (nI 3)] [] h = if T (p + 3) = 103 then runL (g2 L) d 9 false (some .boolean) kc_100 27 [.ref 208, .retAddr 0, .int (nI p), .int (nI 4)] [] h else some (some (.int (nI 0)), h) := by
      rw [e100_27s0, if_neg (by decide), inB_nI (by omega), asr_d (by omega), nI_plus, inB_nI (by omega), asr_d (by omega), ix_nI (by omega), ix_nI (by omega), hX.1 (p + 3) (by omega), show schr 0 3 = nI 103 by decide, nI_plus]
      by_cases q : T (p + 3) = 103
      · rw [if_pos (by rw [q]), if_pos q]
      · rw [if_neg (by rw [nI_eqI (by omega) (by omega)]; omega), if_neg q]
    rw [st0]
    by_cases q0 : T (p + 0) = 114
    · rw [if_pos q0]
      rw [st1]
      by_cases q1 : T (p + 1) = 105
      · rw [if_pos q1]
        rw [st2]
        by_cases q2 : T (p + 2) = 110
        · rw [if_pos q2]
          rw [st3]
          by_cases q3 : T (p + 3) = 103
          · rw [if_pos q3]
            rw [fin, if_pos ⟨by omega, wl.mpr ⟨hn.symm, q0, q1, q2, q3⟩⟩]
          · rw [if_neg q3, if_neg (fun z => q3 (by have z := wl.mp z.2; exact z.2.2.2.2))]
        · rw [if_neg q2, if_neg (fun z => q2 (by have z := wl.mp z.2; exact z.2.2.2.1))]
      · rw [if_neg q1, if_neg (fun z => q1 (by have z := wl.mp z.2; exact z.2.2.1))]
    · rw [if_neg q0, if_neg (fun z => q0 (by have z := wl.mp z.2; exact z.2.1))]
  · rw [if_neg (by rw [nI_eqI (by omega) (by omega)]; exact hn), if_neg (fun z => hn (by
      have wl := wl_0 (T := T) (p := p) (n := e - p) (fun k hk => by
        rcases ltr_i.mp (hl (p + k) (by omega) (by omega)) with q | q <;> omega)
      exact (wl.mp z.2).1.symm))]
theorem m100_1 (d : Nat) {p e sz : Nat} {h : PH} (ht : t ≤ 300) (hT : ∀ k, T k < 256) (hX : TX h T t e sz) (hz : sz ≤ 300) (hp : p ≤ e) (he : e ≤ t) (h10 : hI h 210 sz = nI p) (hl : ∀ k, p ≤ k → k < e → ltr (T k) = true) : exec (g2 L) (d + 1) 100 [.ref 208, .retAddr 1] h = some (some (.int (if e - p ≤ 7 ∧ hv T p (e - p) = 13262068 then nI 1 else nI 0)), h) := by
  have s := x100s1 L d h
  rw [hX.2.2.2, inB_nI (by omega), asr_d (by omega), ix_nI (by omega), hX.2.2.1, h10, nI_minus hp] at s
  rw [s]
  by_cases hn : 4 = e - p
  · have wl := wl_1 (T := T) (p := p) (n := e - p) (fun k hk => by
      rcases ltr_i.mp (hl (p + k) (by omega) (by omega)) with q | q <;> omega)
    have fin : runL (g2 L) d 9 false (some .boolean) kc_100 27 [.ref 208, .retAddr 1, .int (nI p), .int (nI 4)] [] h = some (some (.int (nI 1)), h) := by
      rw [e100_27s1, if_pos (by decide)]
    rw [if_pos (by rw [hn])]
    have t0 := hT (p + 0)
    have st0 : runL (g2 L) d 9 false (some .boolean) kc_100 27 [.ref 208, .retAddr 1, .int (nI p), .int (nI 0)] [] h = if T (p + 0) = 114 then runL (g2 L) d 9 false (some .boolean) kc_100 27 [.ref 208, .retAddr 1, .int (nI p), .int (nI 1)] [] h else some (some (.int (nI 0)), h) := by
      rw [e100_27s1, if_neg (by decide), inB_nI (by omega), asr_d (by omega), nI_plus, inB_nI (by omega), asr_d (by omega), ix_nI (by omega), ix_nI (by omega), hX.1 (p + 0) (by omega), show schr 1 0 = nI 114 by decide, nI_plus]
      by_cases q : T (p + 0) = 114
      · rw [if_pos (by rw [q]), if_pos q]
      · rw [if_neg (by rw [nI_eqI (by omega) (by omega)]; omega), if_neg q]
    have t1 := hT (p + 1)
    have st1 : runL (g2 L) d 9 false (some .boolean) kc_100 27 [.ref 208, .retAddr 1, .int (nI p), .int (nI 1)] [] h = if T (p + 1) = 101 then runL (g2 L) d 9 false (some .boolean) kc_100 27 [.ref 208, .retAddr 1, .int (nI p), .int (nI 2)] [] h else some (some (.int (nI 0)), h) := by
      rw [e100_27s1, if_neg (by decide), inB_nI (by omega), asr_d (by omega), nI_plus, inB_nI (by omega), asr_d (by omega), ix_nI (by omega), ix_nI (by omega), hX.1 (p + 1) (by omega), show schr 1 1 = nI 101 by decide, nI_plus]
      by_cases q : T (p + 1) = 101
      · rw [if_pos (by rw [q]), if_pos q]
      · rw [if_neg (by rw [nI_eqI (by omega) (by omega)]; omega), if_neg q]
    have t2 := hT (p + 2)
    have st2 : runL (g2 L) d 9 false (some .boolean) kc_100 27 [.ref 208, .retAddr 1, .int (nI p), .int (nI 2)] [] h = if T (p + 2) = 115 then runL (g2 L) d 9 false (some .boolean) kc_100 27 [.ref 208, .retAddr 1, .int (nI p), .int (nI 3)] [] h else some (some (.int (nI 0)), h) := by
      rw [e100_27s1, if_neg (by decide), inB_nI (by omega), asr_d (by omega), nI_plus, inB_nI (by omega), asr_d (by omega), ix_nI (by omega), ix_nI (by omega), hX.1 (p + 2) (by omega), show schr 1 2 = nI 115 by decide, nI_plus]
      by_cases q : T (p + 2) = 115
      · rw [if_pos (by rw [q]), if_pos q]
      · rw [if_neg (by rw [nI_eqI (by omega) (by omega)]; omega), if_neg q]
    have t3 := hT (p + 3)
    have st3 : runL (g2 L) d 9 false (some .boolean) kc_100 27 [.ref 208, .retAddr 1, .int (nI p), .int (nI 3)] [] h = if T (p + 3) = 116 then runL (g2 L) d 9 false (some .boolean) kc_100 27 [.ref 208, .retAddr 1, .int (nI p), .int (nI 4)] [] h else some (some (.int (nI 0)), h) := by
      rw [e100_27s1, if_neg (by decide), inB_nI (by omega), asr_d (by omega), nI_plus, inB_nI (by omega), asr_d (by omega), ix_nI (by omega), ix_nI (by omega), hX.1 (p + 3) (by omega), show schr 1 3 = nI 116 by decide, nI_plus]
      by_cases q : T (p + 3) = 116
      · rw [if_pos (by rw [q]), if_pos q]
      · rw [if_neg (by rw [nI_eqI (by omega) (by omega)]; omega), if_neg q]
    rw [st0]
    by_cases q0 : T (p + 0) = 114
    · rw [if_pos q0]
      rw [st1]
      by_cases q1 : T (p + 1) = 101
      · rw [if_pos q1]
        rw [st2]
        by_cases q2 : T (p + 2) = 115
        · rw [if_pos q2]
          rw [st3]
          by_cases q3 : T (p + 3) = 116
          · rw [if_pos q3]
            rw [fin, if_pos ⟨by omega, wl.mpr ⟨hn.symm, q0, q1, q2, q3⟩⟩]
          · rw [if_neg q3, if_neg (fun z => q3 (by have z := wl.mp z.2; exact z.2.2.2.2))]
        · rw [if_neg q2, if_neg (fun z => q2 (by have z := wl.mp z.2; exact z.2.2.2.1))]
      · rw [if_neg q1, if_neg (fun z => q1 (by have z := wl.mp z.2; exact z.2.2.1))]
    · rw [if_neg q0, if_neg (fun z => q0 (by have z := wl.mp z.2; exact z.2.1))]
  · rw [if_neg (by rw [nI_eqI (by omega) (by omega)]; exact hn), if_neg (fun z => hn (by
      have wl := wl_1 (T := T) (p := p) (n := e - p) (fun k hk => by
        rcases ltr_i.mp (hl (p + k) (by omega) (by omega)) with q | q <;> omega)
      exact (wl.mp z.2).1.symm))]
theorem m100_2 (d : Nat) {p e sz : Nat} {h : PH} (ht : t ≤ 300) (hT : ∀ k, T k < 256) (hX : TX h T t e sz) (hz : sz ≤ 300) (hp : p ≤ e) (he : e ≤ t) (h10 : hI h 210 sz = nI p) (hl : ∀ k, p ≤ k → k < e → ltr (T k) = true) : exec (g2 L) (d + 1) 100 [.ref 208, .retAddr 2] h = some (some (.int (if e - p ≤ 7 ∧ hv T p (e - p) = 14584174 then nI 1 else nI 0)), h) := by
  have s := x100s2 L d h
  rw [hX.2.2.2, inB_nI (by omega), asr_d (by omega), ix_nI (by omega), hX.2.2.1, h10, nI_minus hp] at s
  rw [s]
  by_cases hn : 4 = e - p
  · have wl := wl_2 (T := T) (p := p) (n := e - p) (fun k hk => by
      rcases ltr_i.mp (hl (p + k) (by omega) (by omega)) with q | q <;> omega)
    have fin : runL (g2 L) d 9 false (some .boolean) kc_100 27 [.ref 208, .retAddr 2, .int (nI p), .int (nI 4)] [] h = some (some (.int (nI 1)), h) := by
      rw [e100_27s2, if_pos (by decide)]
    rw [if_pos (by rw [hn])]
    have t0 := hT (p + 0)
    have st0 : runL (g2 L) d 9 false (some .boolean) kc_100 27 [.ref 208, .retAddr 2, .int (nI p), .int (nI 0)] [] h = if T (p + 0) = 119 then runL (g2 L) d 9 false (some .boolean) kc_100 27 [.ref 208, .retAddr 2, .int (nI p), .int (nI 1)] [] h else some (some (.int (nI 0)), h) := by
      rw [e100_27s2, if_neg (by decide), inB_nI (by omega), asr_d (by omega), nI_plus, inB_nI (by omega), asr_d (by omega), ix_nI (by omega), ix_nI (by omega), hX.1 (p + 0) (by omega), show schr 2 0 = nI 119 by decide, nI_plus]
      by_cases q : T (p + 0) = 119
      · rw [if_pos (by rw [q]), if_pos q]
      · rw [if_neg (by rw [nI_eqI (by omega) (by omega)]; omega), if_neg q]
    have t1 := hT (p + 1)
    have st1 : runL (g2 L) d 9 false (some .boolean) kc_100 27 [.ref 208, .retAddr 2, .int (nI p), .int (nI 1)] [] h = if T (p + 1) = 104 then runL (g2 L) d 9 false (some .boolean) kc_100 27 [.ref 208, .retAddr 2, .int (nI p), .int (nI 2)] [] h else some (some (.int (nI 0)), h) := by
      rw [e100_27s2, if_neg (by decide), inB_nI (by omega), asr_d (by omega), nI_plus, inB_nI (by omega), asr_d (by omega), ix_nI (by omega), ix_nI (by omega), hX.1 (p + 1) (by omega), show schr 2 1 = nI 104 by decide, nI_plus]
      by_cases q : T (p + 1) = 104
      · rw [if_pos (by rw [q]), if_pos q]
      · rw [if_neg (by rw [nI_eqI (by omega) (by omega)]; omega), if_neg q]
    have t2 := hT (p + 2)
    have st2 : runL (g2 L) d 9 false (some .boolean) kc_100 27 [.ref 208, .retAddr 2, .int (nI p), .int (nI 2)] [] h = if T (p + 2) = 101 then runL (g2 L) d 9 false (some .boolean) kc_100 27 [.ref 208, .retAddr 2, .int (nI p), .int (nI 3)] [] h else some (some (.int (nI 0)), h) := by
      rw [e100_27s2, if_neg (by decide), inB_nI (by omega), asr_d (by omega), nI_plus, inB_nI (by omega), asr_d (by omega), ix_nI (by omega), ix_nI (by omega), hX.1 (p + 2) (by omega), show schr 2 2 = nI 101 by decide, nI_plus]
      by_cases q : T (p + 2) = 101
      · rw [if_pos (by rw [q]), if_pos q]
      · rw [if_neg (by rw [nI_eqI (by omega) (by omega)]; omega), if_neg q]
    have t3 := hT (p + 3)
    have st3 : runL (g2 L) d 9 false (some .boolean) kc_100 27 [.ref 208, .retAddr 2, .int (nI p), .int (nI 3)] [] h = if T (p + 3) = 110 then runL (g2 L) d 9 false (some .boolean) kc_100 27 [.ref 208, .retAddr 2, .int (nI p), .int (nI 4)] [] h else some (some (.int (nI 0)), h) := by
      rw [e100_27s2, if_neg (by decide), inB_nI (by omega), asr_d (by omega), nI_plus, inB_nI (by omega), asr_d (by omega), ix_nI (by omega), ix_nI (by omega), hX.1 (p + 3) (by omega), show schr 2 3 = nI 110 by decide, nI_plus]
      by_cases q : T (p + 3) = 110
      · rw [if_pos (by rw [q]), if_pos q]
      · rw [if_neg (by rw [nI_eqI (by omega) (by omega)]; omega), if_neg q]
    rw [st0]
    by_cases q0 : T (p + 0) = 119
    · rw [if_pos q0]
      rw [st1]
      by_cases q1 : T (p + 1) = 104
      · rw [if_pos q1]
        rw [st2]
        by_cases q2 : T (p + 2) = 101
        · rw [if_pos q2]
          rw [st3]
          by_cases q3 : T (p + 3) = 110
          · rw [if_pos q3]
            rw [fin, if_pos ⟨by omega, wl.mpr ⟨hn.symm, q0, q1, q2, q3⟩⟩]
          · rw [if_neg q3, if_neg (fun z => q3 (by have z := wl.mp z.2; exact z.2.2.2.2))]
        · rw [if_neg q2, if_neg (fun z => q2 (by have z := wl.mp z.2; exact z.2.2.2.1))]
      · rw [if_neg q1, if_neg (fun z => q1 (by have z := wl.mp z.2; exact z.2.2.1))]
    · rw [if_neg q0, if_neg (fun z => q0 (by have z := wl.mp z.2; exact z.2.1))]
  · rw [if_neg (by rw [nI_eqI (by omega) (by omega)]; exact hn), if_neg (fun z => hn (by
      have wl := wl_2 (T := T) (p := p) (n := e - p) (fun k hk => by
        rcases ltr_i.mp (hl (p + k) (by omega) (by omega)) with q | q <;> omega)
      exact (wl.mp z.2).1.symm))]
theorem m100_3 (d : Nat) {p e sz : Nat} {h : PH} (ht : t ≤ 300) (hT : ∀ k, T k < 256) (hX : TX h T t e sz) (hz : sz ≤ 300) (hp : p ≤ e) (he : e ≤ t) (h10 : hI h 210 sz = nI p) (hl : ∀ k, p ≤ k → k < e → ltr (T k) = true) : exec (g2 L) (d + 1) 100 [.ref 208, .retAddr 3] h = some (some (.int (if e - p ≤ 7 ∧ hv T p (e - p) = 3058 then nI 1 else nI 0)), h) := by
  have s := x100s3 L d h
  rw [hX.2.2.2, inB_nI (by omega), asr_d (by omega), ix_nI (by omega), hX.2.2.1, h10, nI_minus hp] at s
  rw [s]
  by_cases hn : 2 = e - p
  · have wl := wl_3 (T := T) (p := p) (n := e - p) (fun k hk => by
      rcases ltr_i.mp (hl (p + k) (by omega) (by omega)) with q | q <;> omega)
    have fin : runL (g2 L) d 9 false (some .boolean) kc_100 27 [.ref 208, .retAddr 3, .int (nI p), .int (nI 2)] [] h = some (some (.int (nI 1)), h) := by
      rw [e100_27s3, if_pos (by decide)]
    rw [if_pos (by rw [hn])]
    have t0 := hT (p + 0)
    have st0 : runL (g2 L) d 9 false (some .boolean) kc_100 27 [.ref 208, .retAddr 3, .int (nI p), .int (nI 0)] [] h = if T (p + 0) = 111 then runL (g2 L) d 9 false (some .boolean) kc_100 27 [.ref 208, .retAddr 3, .int (nI p), .int (nI 1)] [] h else some (some (.int (nI 0)), h) := by
      rw [e100_27s3, if_neg (by decide), inB_nI (by omega), asr_d (by omega), nI_plus, inB_nI (by omega), asr_d (by omega), ix_nI (by omega), ix_nI (by omega), hX.1 (p + 0) (by omega), show schr 3 0 = nI 111 by decide, nI_plus]
      by_cases q : T (p + 0) = 111
      · rw [if_pos (by rw [q]), if_pos q]
      · rw [if_neg (by rw [nI_eqI (by omega) (by omega)]; omega), if_neg q]
    have t1 := hT (p + 1)
    have st1 : runL (g2 L) d 9 false (some .boolean) kc_100 27 [.ref 208, .retAddr 3, .int (nI p), .int (nI 1)] [] h = if T (p + 1) = 114 then runL (g2 L) d 9 false (some .boolean) kc_100 27 [.ref 208, .retAddr 3, .int (nI p), .int (nI 2)] [] h else some (some (.int (nI 0)), h) := by
      rw [e100_27s3, if_neg (by decide), inB_nI (by omega), asr_d (by omega), nI_plus, inB_nI (by omega), asr_d (by omega), ix_nI (by omega), ix_nI (by omega), hX.1 (p + 1) (by omega), show schr 3 1 = nI 114 by decide, nI_plus]
      by_cases q : T (p + 1) = 114
      · rw [if_pos (by rw [q]), if_pos q]
      · rw [if_neg (by rw [nI_eqI (by omega) (by omega)]; omega), if_neg q]
    rw [st0]
    by_cases q0 : T (p + 0) = 111
    · rw [if_pos q0]
      rw [st1]
      by_cases q1 : T (p + 1) = 114
      · rw [if_pos q1]
        rw [fin, if_pos ⟨by omega, wl.mpr ⟨hn.symm, q0, q1⟩⟩]
      · rw [if_neg q1, if_neg (fun z => q1 (by have z := wl.mp z.2; exact z.2.2))]
    · rw [if_neg q0, if_neg (fun z => q0 (by have z := wl.mp z.2; exact z.2.1))]
  · rw [if_neg (by rw [nI_eqI (by omega) (by omega)]; exact hn), if_neg (fun z => hn (by
      have wl := wl_3 (T := T) (p := p) (n := e - p) (fun k hk => by
        rcases ltr_i.mp (hl (p + k) (by omega) (by omega)) with q | q <;> omega)
      exact (wl.mp z.2).1.symm))]
theorem m100_4 (d : Nat) {p e sz : Nat} {h : PH} (ht : t ≤ 300) (hT : ∀ k, T k < 256) (hX : TX h T t e sz) (hz : sz ≤ 300) (hp : p ≤ e) (he : e ≤ t) (h10 : hI h 210 sz = nI p) (hl : ∀ k, p ≤ k → k < e → ltr (T k) = true) : exec (g2 L) (d + 1) 100 [.ref 208, .retAddr 4] h = some (some (.int (if e - p ≤ 7 ∧ hv T p (e - p) = 138148 then nI 1 else nI 0)), h) := by
  have s := x100s4 L d h
  rw [hX.2.2.2, inB_nI (by omega), asr_d (by omega), ix_nI (by omega), hX.2.2.1, h10, nI_minus hp] at s
  rw [s]
  by_cases hn : 3 = e - p
  · have wl := wl_4 (T := T) (p := p) (n := e - p) (fun k hk => by
      rcases ltr_i.mp (hl (p + k) (by omega) (by omega)) with q | q <;> omega)
    have fin : runL (g2 L) d 9 false (some .boolean) kc_100 27 [.ref 208, .retAddr 4, .int (nI p), .int (nI 3)] [] h = some (some (.int (nI 1)), h) := by
      rw [e100_27s4, if_pos (by decide)]
    rw [if_pos (by rw [hn])]
    have t0 := hT (p + 0)
    have st0 : runL (g2 L) d 9 false (some .boolean) kc_100 27 [.ref 208, .retAddr 4, .int (nI p), .int (nI 0)] [] h = if T (p + 0) = 97 then runL (g2 L) d 9 false (some .boolean) kc_100 27 [.ref 208, .retAddr 4, .int (nI p), .int (nI 1)] [] h else some (some (.int (nI 0)), h) := by
      rw [e100_27s4, if_neg (by decide), inB_nI (by omega), asr_d (by omega), nI_plus, inB_nI (by omega), asr_d (by omega), ix_nI (by omega), ix_nI (by omega), hX.1 (p + 0) (by omega), show schr 4 0 = nI 97 by decide, nI_plus]
      by_cases q : T (p + 0) = 97
      · rw [if_pos (by rw [q]), if_pos q]
      · rw [if_neg (by rw [nI_eqI (by omega) (by omega)]; omega), if_neg q]
    have t1 := hT (p + 1)
    have st1 : runL (g2 L) d 9 false (some .boolean) kc_100 27 [.ref 208, .retAddr 4, .int (nI p), .int (nI 1)] [] h = if T (p + 1) = 110 then runL (g2 L) d 9 false (some .boolean) kc_100 27 [.ref 208, .retAddr 4, .int (nI p), .int (nI 2)] [] h else some (some (.int (nI 0)), h) := by
      rw [e100_27s4, if_neg (by decide), inB_nI (by omega), asr_d (by omega), nI_plus, inB_nI (by omega), asr_d (by omega), ix_nI (by omega), ix_nI (by omega), hX.1 (p + 1) (by omega), show schr 4 1 = nI 110 by decide, nI_plus]
      by_cases q : T (p + 1) = 110
      · rw [if_pos (by rw [q]), if_pos q]
      · rw [if_neg (by rw [nI_eqI (by omega) (by omega)]; omega), if_neg q]
    have t2 := hT (p + 2)
    have st2 : runL (g2 L) d 9 false (some .boolean) kc_100 27 [.ref 208, .retAddr 4, .int (nI p), .int (nI 2)] [] h = if T (p + 2) = 100 then runL (g2 L) d 9 false (some .boolean) kc_100 27 [.ref 208, .retAddr 4, .int (nI p), .int (nI 3)] [] h else some (some (.int (nI 0)), h) := by
      rw [e100_27s4, if_neg (by decide), inB_nI (by omega), asr_d (by omega), nI_plus, inB_nI (by omega), asr_d (by omega), ix_nI (by omega), ix_nI (by omega), hX.1 (p + 2) (by omega), show schr 4 2 = nI 100 by decide, nI_plus]
      by_cases q : T (p + 2) = 100
      · rw [if_pos (by rw [q]), if_pos q]
      · rw [if_neg (by rw [nI_eqI (by omega) (by omega)]; omega), if_neg q]
    rw [st0]
    by_cases q0 : T (p + 0) = 97
    · rw [if_pos q0]
      rw [st1]
      by_cases q1 : T (p + 1) = 110
      · rw [if_pos q1]
        rw [st2]
        by_cases q2 : T (p + 2) = 100
        · rw [if_pos q2]
          rw [fin, if_pos ⟨by omega, wl.mpr ⟨hn.symm, q0, q1, q2⟩⟩]
        · rw [if_neg q2, if_neg (fun z => q2 (by have z := wl.mp z.2; exact z.2.2.2))]
      · rw [if_neg q1, if_neg (fun z => q1 (by have z := wl.mp z.2; exact z.2.2.1))]
    · rw [if_neg q0, if_neg (fun z => q0 (by have z := wl.mp z.2; exact z.2.1))]
  · rw [if_neg (by rw [nI_eqI (by omega) (by omega)]; exact hn), if_neg (fun z => hn (by
      have wl := wl_4 (T := T) (p := p) (n := e - p) (fun k hk => by
        rcases ltr_i.mp (hl (p + k) (by omega) (by omega)) with q | q <;> omega)
      exact (wl.mp z.2).1.symm))]
theorem m100_5 (d : Nat) {p e sz : Nat} {h : PH} (ht : t ≤ 300) (hT : ∀ k, T k < 256) (hX : TX h T t e sz) (hz : sz ≤ 300) (hp : p ≤ e) (he : e ≤ t) (h10 : hI h 210 sz = nI p) (hl : ∀ k, p ≤ k → k < e → ltr (T k) = true) : exec (g2 L) (d + 1) 100 [.ref 208, .retAddr 5] h = some (some (.int (if e - p ≤ 7 ∧ hv T p (e - p) = 191476 then nI 1 else nI 0)), h) := by
  have s := x100s5 L d h
  rw [hX.2.2.2, inB_nI (by omega), asr_d (by omega), ix_nI (by omega), hX.2.2.1, h10, nI_minus hp] at s
  rw [s]
  by_cases hn : 3 = e - p
  · have wl := wl_5 (T := T) (p := p) (n := e - p) (fun k hk => by
      rcases ltr_i.mp (hl (p + k) (by omega) (by omega)) with q | q <;> omega)
    have fin : runL (g2 L) d 9 false (some .boolean) kc_100 27 [.ref 208, .retAddr 5, .int (nI p), .int (nI 3)] [] h = some (some (.int (nI 1)), h) := by
      rw [e100_27s5, if_pos (by decide)]
    rw [if_pos (by rw [hn])]
    have t0 := hT (p + 0)
    have st0 : runL (g2 L) d 9 false (some .boolean) kc_100 27 [.ref 208, .retAddr 5, .int (nI p), .int (nI 0)] [] h = if T (p + 0) = 110 then runL (g2 L) d 9 false (some .boolean) kc_100 27 [.ref 208, .retAddr 5, .int (nI p), .int (nI 1)] [] h else some (some (.int (nI 0)), h) := by
      rw [e100_27s5, if_neg (by decide), inB_nI (by omega), asr_d (by omega), nI_plus, inB_nI (by omega), asr_d (by omega), ix_nI (by omega), ix_nI (by omega), hX.1 (p + 0) (by omega), show schr 5 0 = nI 110 by decide, nI_plus]
      by_cases q : T (p + 0) = 110
      · rw [if_pos (by rw [q]), if_pos q]
      · rw [if_neg (by rw [nI_eqI (by omega) (by omega)]; omega), if_neg q]
    have t1 := hT (p + 1)
    have st1 : runL (g2 L) d 9 false (some .boolean) kc_100 27 [.ref 208, .retAddr 5, .int (nI p), .int (nI 1)] [] h = if T (p + 1) = 111 then runL (g2 L) d 9 false (some .boolean) kc_100 27 [.ref 208, .retAddr 5, .int (nI p), .int (nI 2)] [] h else some (some (.int (nI 0)), h) := by
      rw [e100_27s5, if_neg (by decide), inB_nI (by omega), asr_d (by omega), nI_plus, inB_nI (by omega), asr_d (by omega), ix_nI (by omega), ix_nI (by omega), hX.1 (p + 1) (by omega), show schr 5 1 = nI 111 by decide, nI_plus]
      by_cases q : T (p + 1) = 111
      · rw [if_pos (by rw [q]), if_pos q]
      · rw [if_neg (by rw [nI_eqI (by omega) (by omega)]; omega), if_neg q]
    have t2 := hT (p + 2)
    have st2 : runL (g2 L) d 9 false (some .boolean) kc_100 27 [.ref 208, .retAddr 5, .int (nI p), .int (nI 2)] [] h = if T (p + 2) = 116 then runL (g2 L) d 9 false (some .boolean) kc_100 27 [.ref 208, .retAddr 5, .int (nI p), .int (nI 3)] [] h else some (some (.int (nI 0)), h) := by
      rw [e100_27s5, if_neg (by decide), inB_nI (by omega), asr_d (by omega), nI_plus, inB_nI (by omega), asr_d (by omega), ix_nI (by omega), ix_nI (by omega), hX.1 (p + 2) (by omega), show schr 5 2 = nI 116 by decide, nI_plus]
      by_cases q : T (p + 2) = 116
      · rw [if_pos (by rw [q]), if_pos q]
      · rw [if_neg (by rw [nI_eqI (by omega) (by omega)]; omega), if_neg q]
    rw [st0]
    by_cases q0 : T (p + 0) = 110
    · rw [if_pos q0]
      rw [st1]
      by_cases q1 : T (p + 1) = 111
      · rw [if_pos q1]
        rw [st2]
        by_cases q2 : T (p + 2) = 116
        · rw [if_pos q2]
          rw [fin, if_pos ⟨by omega, wl.mpr ⟨hn.symm, q0, q1, q2⟩⟩]
        · rw [if_neg q2, if_neg (fun z => q2 (by have z := wl.mp z.2; exact z.2.2.2))]
      · rw [if_neg q1, if_neg (fun z => q1 (by have z := wl.mp z.2; exact z.2.2.1))]
    · rw [if_neg q0, if_neg (fun z => q0 (by have z := wl.mp z.2; exact z.2.1))]
  · rw [if_neg (by rw [nI_eqI (by omega) (by omega)]; exact hn), if_neg (fun z => hn (by
      have wl := wl_5 (T := T) (p := p) (n := e - p) (fun k hk => by
        rcases ltr_i.mp (hl (p + k) (by omega) (by omega)) with q | q <;> omega)
      exact (wl.mp z.2).1.symm))]
theorem m100_6 (d : Nat) {p e sz : Nat} {h : PH} (ht : t ≤ 300) (hT : ∀ k, T k < 256) (hX : TX h T t e sz) (hz : sz ≤ 300) (hp : p ≤ e) (he : e ≤ t) (h10 : hI h 210 sz = nI p) (hl : ∀ k, p ≤ k → k < e → ltr (T k) = true) : exec (g2 L) (d + 1) 100 [.ref 208, .retAddr 6] h = some (some (.int (if e - p ≤ 7 ∧ hv T p (e - p) = 49018527013 then nI 1 else nI 0)), h) := by
  have s := x100s6 L d h
  rw [hX.2.2.2, inB_nI (by omega), asr_d (by omega), ix_nI (by omega), hX.2.2.1, h10, nI_minus hp] at s
  rw [s]
  by_cases hn : 6 = e - p
  · have wl := wl_6 (T := T) (p := p) (n := e - p) (fun k hk => by
      rcases ltr_i.mp (hl (p + k) (by omega) (by omega)) with q | q <;> omega)
    have fin : runL (g2 L) d 9 false (some .boolean) kc_100 27 [.ref 208, .retAddr 6, .int (nI p), .int (nI 6)] [] h = some (some (.int (nI 1)), h) := by
      rw [e100_27s6, if_pos (by decide)]
    rw [if_pos (by rw [hn])]
    have t0 := hT (p + 0)
    have st0 : runL (g2 L) d 9 false (some .boolean) kc_100 27 [.ref 208, .retAddr 6, .int (nI p), .int (nI 0)] [] h = if T (p + 0) = 109 then runL (g2 L) d 9 false (some .boolean) kc_100 27 [.ref 208, .retAddr 6, .int (nI p), .int (nI 1)] [] h else some (some (.int (nI 0)), h) := by
      rw [e100_27s6, if_neg (by decide), inB_nI (by omega), asr_d (by omega), nI_plus, inB_nI (by omega), asr_d (by omega), ix_nI (by omega), ix_nI (by omega), hX.1 (p + 0) (by omega), show schr 6 0 = nI 109 by decide, nI_plus]
      by_cases q : T (p + 0) = 109
      · rw [if_pos (by rw [q]), if_pos q]
      · rw [if_neg (by rw [nI_eqI (by omega) (by omega)]; omega), if_neg q]
    have t1 := hT (p + 1)
    have st1 : runL (g2 L) d 9 false (some .boolean) kc_100 27 [.ref 208, .retAddr 6, .int (nI p), .int (nI 1)] [] h = if T (p + 1) = 105 then runL (g2 L) d 9 false (some .boolean) kc_100 27 [.ref 208, .retAddr 6, .int (nI p), .int (nI 2)] [] h else some (some (.int (nI 0)), h) := by
      rw [e100_27s6, if_neg (by decide), inB_nI (by omega), asr_d (by omega), nI_plus, inB_nI (by omega), asr_d (by omega), ix_nI (by omega), ix_nI (by omega), hX.1 (p + 1) (by omega), show schr 6 1 = nI 105 by decide, nI_plus]
      by_cases q : T (p + 1) = 105
      · rw [if_pos (by rw [q]), if_pos q]
      · rw [if_neg (by rw [nI_eqI (by omega) (by omega)]; omega), if_neg q]
    have t2 := hT (p + 2)
    have st2 : runL (g2 L) d 9 false (some .boolean) kc_100 27 [.ref 208, .retAddr 6, .int (nI p), .int (nI 2)] [] h = if T (p + 2) = 110 then runL (g2 L) d 9 false (some .boolean) kc_100 27 [.ref 208, .retAddr 6, .int (nI p), .int (nI 3)] [] h else some (some (.int (nI 0)), h) := by
      rw [e100_27s6, if_neg (by decide), inB_nI (by omega), asr_d (by omega), nI_plus, inB_nI (by omega), asr_d (by omega), ix_nI (by omega), ix_nI (by omega), hX.1 (p + 2) (by omega), show schr 6 2 = nI 110 by decide, nI_plus]
      by_cases q : T (p + 2) = 110
      · rw [if_pos (by rw [q]), if_pos q]
      · rw [if_neg (by rw [nI_eqI (by omega) (by omega)]; omega), if_neg q]
    have t3 := hT (p + 3)
    have st3 : runL (g2 L) d 9 false (some .boolean) kc_100 27 [.ref 208, .retAddr 6, .int (nI p), .int (nI 3)] [] h = if T (p + 3) = 117 then runL (g2 L) d 9 false (some .boolean) kc_100 27 [.ref 208, .retAddr 6, .int (nI p), .int (nI 4)] [] h else some (some (.int (nI 0)), h) := by
      rw [e100_27s6, if_neg (by decide), inB_nI (by omega), asr_d (by omega), nI_plus, inB_nI (by omega), asr_d (by omega), ix_nI (by omega), ix_nI (by omega), hX.1 (p + 3) (by omega), show schr 6 3 = nI 117 by decide, nI_plus]
      by_cases q : T (p + 3) = 117
      · rw [if_pos (by rw [q]), if_pos q]
      · rw [if_neg (by rw [nI_eqI (by omega) (by omega)]; omega), if_neg q]
    have t4 := hT (p + 4)
    have st4 : runL (g2 L) d 9 false (some .boolean) kc_100 27 [.ref 208, .retAddr 6, .int (nI p), .int (nI 4)] [] h = if T (p + 4) = 116 then runL (g2 L) d 9 false (some .boolean) kc_100 27 [.ref 208, .retAddr 6, .int (nI p), .int (nI 5)] [] h else some (some (.int (nI 0)), h) := by
      rw [e100_27s6, if_neg (by decide), inB_nI (by omega), asr_d (by omega), nI_plus, inB_nI (by omega), asr_d (by omega), ix_nI (by omega), ix_nI (by omega), hX.1 (p + 4) (by omega), show schr 6 4 = nI 116 by decide, nI_plus]
      by_cases q : T (p + 4) = 116
      · rw [if_pos (by rw [q]), if_pos q]
      · rw [if_neg (by rw [nI_eqI (by omega) (by omega)]; omega), if_neg q]
    have t5 := hT (p + 5)
    have st5 : runL (g2 L) d 9 false (some .boolean) kc_100 27 [.ref 208, .retAddr 6, .int (nI p), .int (nI 5)] [] h = if T (p + 5) = 101 then runL (g2 L) d 9 false (some .boolean) kc_100 27 [.ref 208, .retAddr 6, .int (nI p), .int (nI 6)] [] h else some (some (.int (nI 0)), h) := by
      rw [e100_27s6, if_neg (by decide), inB_nI (by omega), asr_d (by omega), nI_plus, inB_nI (by omega), asr_d (by omega), ix_nI (by omega), ix_nI (by omega), hX.1 (p + 5) (by omega), show schr 6 5 = nI 101 by decide, nI_plus]
      by_cases q : T (p + 5) = 101
      · rw [if_pos (by rw [q]), if_pos q]
      · rw [if_neg (by rw [nI_eqI (by omega) (by omega)]; omega), if_neg q]
    rw [st0]
    by_cases q0 : T (p + 0) = 109
    · rw [if_pos q0]
      rw [st1]
      by_cases q1 : T (p + 1) = 105
      · rw [if_pos q1]
        rw [st2]
        by_cases q2 : T (p + 2) = 110
        · rw [if_pos q2]
          rw [st3]
          by_cases q3 : T (p + 3) = 117
          · rw [if_pos q3]
            rw [st4]
            by_cases q4 : T (p + 4) = 116
            · rw [if_pos q4]
              rw [st5]
              by_cases q5 : T (p + 5) = 101
              · rw [if_pos q5]
                rw [fin, if_pos ⟨by omega, wl.mpr ⟨hn.symm, q0, q1, q2, q3, q4, q5⟩⟩]
              · rw [if_neg q5, if_neg (fun z => q5 (by have z := wl.mp z.2; exact z.2.2.2.2.2.2))]
            · rw [if_neg q4, if_neg (fun z => q4 (by have z := wl.mp z.2; exact z.2.2.2.2.2.1))]
          · rw [if_neg q3, if_neg (fun z => q3 (by have z := wl.mp z.2; exact z.2.2.2.2.1))]
        · rw [if_neg q2, if_neg (fun z => q2 (by have z := wl.mp z.2; exact z.2.2.2.1))]
      · rw [if_neg q1, if_neg (fun z => q1 (by have z := wl.mp z.2; exact z.2.2.1))]
    · rw [if_neg q0, if_neg (fun z => q0 (by have z := wl.mp z.2; exact z.2.1))]
  · rw [if_neg (by rw [nI_eqI (by omega) (by omega)]; exact hn), if_neg (fun z => hn (by
      have wl := wl_6 (T := T) (p := p) (n := e - p) (fun k hk => by
        rcases ltr_i.mp (hl (p + k) (by omega) (by omega)) with q | q <;> omega)
      exact (wl.mp z.2).1.symm))]
theorem m100_7 (d : Nat) {p e sz : Nat} {h : PH} (ht : t ≤ 300) (hT : ∀ k, T k < 256) (hX : TX h T t e sz) (hz : sz ≤ 300) (hp : p ≤ e) (he : e ≤ t) (h10 : hI h 210 sz = nI p) (hl : ∀ k, p ≤ k → k < e → ltr (T k) = true) : exec (g2 L) (d + 1) 100 [.ref 208, .retAddr 7] h = some (some (.int (if e - p ≤ 7 ∧ hv T p (e - p) = 10681714 then nI 1 else nI 0)), h) := by
  have s := x100s7 L d h
  rw [hX.2.2.2, inB_nI (by omega), asr_d (by omega), ix_nI (by omega), hX.2.2.1, h10, nI_minus hp] at s
  rw [s]
  by_cases hn : 4 = e - p
  · have wl := wl_7 (T := T) (p := p) (n := e - p) (fun k hk => by
      rcases ltr_i.mp (hl (p + k) (by omega) (by omega)) with q | q <;> omega)
    have fin : runL (g2 L) d 9 false (some .boolean) kc_100 27 [.ref 208, .retAddr 7, .int (nI p), .int (nI 4)] [] h = some (some (.int (nI 1)), h) := by
      rw [e100_27s7, if_pos (by decide)]
    rw [if_pos (by rw [hn])]
    have t0 := hT (p + 0)
    have st0 : runL (g2 L) d 9 false (some .boolean) kc_100 27 [.ref 208, .retAddr 7, .int (nI p), .int (nI 0)] [] h = if T (p + 0) = 104 then runL (g2 L) d 9 false (some .boolean) kc_100 27 [.ref 208, .retAddr 7, .int (nI p), .int (nI 1)] [] h else some (some (.int (nI 0)), h) := by
      rw [e100_27s7, if_neg (by decide), inB_nI (by omega), asr_d (by omega), nI_plus, inB_nI (by omega), asr_d (by omega), ix_nI (by omega), ix_nI (by omega), hX.1 (p + 0) (by omega), show schr 7 0 = nI 104 by decide, nI_plus]
      by_cases q : T (p + 0) = 104
      · rw [if_pos (by rw [q]), if_pos q]
      · rw [if_neg (by rw [nI_eqI (by omega) (by omega)]; omega), if_neg q]
    have t1 := hT (p + 1)
    have st1 : runL (g2 L) d 9 false (some .boolean) kc_100 27 [.ref 208, .retAddr 7, .int (nI p), .int (nI 1)] [] h = if T (p + 1) = 111 then runL (g2 L) d 9 false (some .boolean) kc_100 27 [.ref 208, .retAddr 7, .int (nI p), .int (nI 2)] [] h else some (some (.int (nI 0)), h) := by
      rw [e100_27s7, if_neg (by decide), inB_nI (by omega), asr_d (by omega), nI_plus, inB_nI (by omega), asr_d (by omega), ix_nI (by omega), ix_nI (by omega), hX.1 (p + 1) (by omega), show schr 7 1 = nI 111 by decide, nI_plus]
      by_cases q : T (p + 1) = 111
      · rw [if_pos (by rw [q]), if_pos q]
      · rw [if_neg (by rw [nI_eqI (by omega) (by omega)]; omega), if_neg q]
    have t2 := hT (p + 2)
    have st2 : runL (g2 L) d 9 false (some .boolean) kc_100 27 [.ref 208, .retAddr 7, .int (nI p), .int (nI 2)] [] h = if T (p + 2) = 117 then runL (g2 L) d 9 false (some .boolean) kc_100 27 [.ref 208, .retAddr 7, .int (nI p), .int (nI 3)] [] h else some (some (.int (nI 0)), h) := by
      rw [e100_27s7, if_neg (by decide), inB_nI (by omega), asr_d (by omega), nI_plus, inB_nI (by omega), asr_d (by omega), ix_nI (by omega), ix_nI (by omega), hX.1 (p + 2) (by omega), show schr 7 2 = nI 117 by decide, nI_plus]
      by_cases q : T (p + 2) = 117
      · rw [if_pos (by rw [q]), if_pos q]
      · rw [if_neg (by rw [nI_eqI (by omega) (by omega)]; omega), if_neg q]
    have t3 := hT (p + 3)
    have st3 : runL (g2 L) d 9 false (some .boolean) kc_100 27 [.ref 208, .retAddr 7, .int (nI p), .int (nI 3)] [] h = if T (p + 3) = 114 then runL (g2 L) d 9 false (some .boolean) kc_100 27 [.ref 208, .retAddr 7, .int (nI p), .int (nI 4)] [] h else some (some (.int (nI 0)), h) := by
      rw [e100_27s7, if_neg (by decide), inB_nI (by omega), asr_d (by omega), nI_plus, inB_nI (by omega), asr_d (by omega), ix_nI (by omega), ix_nI (by omega), hX.1 (p + 3) (by omega), show schr 7 3 = nI 114 by decide, nI_plus]
      by_cases q : T (p + 3) = 114
      · rw [if_pos (by rw [q]), if_pos q]
      · rw [if_neg (by rw [nI_eqI (by omega) (by omega)]; omega), if_neg q]
    rw [st0]
    by_cases q0 : T (p + 0) = 104
    · rw [if_pos q0]
      rw [st1]
      by_cases q1 : T (p + 1) = 111
      · rw [if_pos q1]
        rw [st2]
        by_cases q2 : T (p + 2) = 117
        · rw [if_pos q2]
          rw [st3]
          by_cases q3 : T (p + 3) = 114
          · rw [if_pos q3]
            rw [fin, if_pos ⟨by omega, wl.mpr ⟨hn.symm, q0, q1, q2, q3⟩⟩]
          · rw [if_neg q3, if_neg (fun z => q3 (by have z := wl.mp z.2; exact z.2.2.2.2))]
        · rw [if_neg q2, if_neg (fun z => q2 (by have z := wl.mp z.2; exact z.2.2.2.1))]
      · rw [if_neg q1, if_neg (fun z => q1 (by have z := wl.mp z.2; exact z.2.2.1))]
    · rw [if_neg q0, if_neg (fun z => q0 (by have z := wl.mp z.2; exact z.2.1))]
  · rw [if_neg (by rw [nI_eqI (by omega) (by omega)]; exact hn), if_neg (fun z => hn (by
      have wl := wl_7 (T := T) (p := p) (n := e - p) (fun k hk => by
        rcases ltr_i.mp (hl (p + k) (by omega) (by omega)) with q | q <;> omega)
      exact (wl.mp z.2).1.symm))]
theorem m100_8 (d : Nat) {p e sz : Nat} {h : PH} (ht : t ≤ 300) (hT : ∀ k, T k < 256) (hX : TX h T t e sz) (hz : sz ≤ 300) (hp : p ≤ e) (he : e ≤ t) (h10 : hI h 210 sz = nI p) (hl : ∀ k, p ≤ k → k < e → ltr (T k) = true) : exec (g2 L) (d + 1) 100 [.ref 208, .retAddr 8] h = some (some (.int (if e - p ≤ 7 ∧ hv T p (e - p) = 598931691 then nI 1 else nI 0)), h) := by
  have s := x100s8 L d h
  rw [hX.2.2.2, inB_nI (by omega), asr_d (by omega), ix_nI (by omega), hX.2.2.1, h10, nI_minus hp] at s
  rw [s]
  by_cases hn : 5 = e - p
  · have wl := wl_8 (T := T) (p := p) (n := e - p) (fun k hk => by
      rcases ltr_i.mp (hl (p + k) (by omega) (by omega)) with q | q <;> omega)
    have fin : runL (g2 L) d 9 false (some .boolean) kc_100 27 [.ref 208, .retAddr 8, .int (nI p), .int (nI 5)] [] h = some (some (.int (nI 1)), h) := by
      rw [e100_27s8, if_pos (by decide)]
    rw [if_pos (by rw [hn])]
    have t0 := hT (p + 0)
    have st0 : runL (g2 L) d 9 false (some .boolean) kc_100 27 [.ref 208, .retAddr 8, .int (nI p), .int (nI 0)] [] h = if T (p + 0) = 99 then runL (g2 L) d 9 false (some .boolean) kc_100 27 [.ref 208, .retAddr 8, .int (nI p), .int (nI 1)] [] h else some (some (.int (nI 0)), h) := by
      rw [e100_27s8, if_neg (by decide), inB_nI (by omega), asr_d (by omega), nI_plus, inB_nI (by omega), asr_d (by omega), ix_nI (by omega), ix_nI (by omega), hX.1 (p + 0) (by omega), show schr 8 0 = nI 99 by decide, nI_plus]
      by_cases q : T (p + 0) = 99
      · rw [if_pos (by rw [q]), if_pos q]
      · rw [if_neg (by rw [nI_eqI (by omega) (by omega)]; omega), if_neg q]
    have t1 := hT (p + 1)
    have st1 : runL (g2 L) d 9 false (some .boolean) kc_100 27 [.ref 208, .retAddr 8, .int (nI p), .int (nI 1)] [] h = if T (p + 1) = 108 then runL (g2 L) d 9 false (some .boolean) kc_100 27 [.ref 208, .retAddr 8, .int (nI p), .int (nI 2)] [] h else some (some (.int (nI 0)), h) := by
      rw [e100_27s8, if_neg (by decide), inB_nI (by omega), asr_d (by omega), nI_plus, inB_nI (by omega), asr_d (by omega), ix_nI (by omega), ix_nI (by omega), hX.1 (p + 1) (by omega), show schr 8 1 = nI 108 by decide, nI_plus]
      by_cases q : T (p + 1) = 108
      · rw [if_pos (by rw [q]), if_pos q]
      · rw [if_neg (by rw [nI_eqI (by omega) (by omega)]; omega), if_neg q]
    have t2 := hT (p + 2)
    have st2 : runL (g2 L) d 9 false (some .boolean) kc_100 27 [.ref 208, .retAddr 8, .int (nI p), .int (nI 2)] [] h = if T (p + 2) = 111 then runL (g2 L) d 9 false (some .boolean) kc_100 27 [.ref 208, .retAddr 8, .int (nI p), .int (nI 3)] [] h else some (some (.int (nI 0)), h) := by
      rw [e100_27s8, if_neg (by decide), inB_nI (by omega), asr_d (by omega), nI_plus, inB_nI (by omega), asr_d (by omega), ix_nI (by omega), ix_nI (by omega), hX.1 (p + 2) (by omega), show schr 8 2 = nI 111 by decide, nI_plus]
      by_cases q : T (p + 2) = 111
      · rw [if_pos (by rw [q]), if_pos q]
      · rw [if_neg (by rw [nI_eqI (by omega) (by omega)]; omega), if_neg q]
    have t3 := hT (p + 3)
    have st3 : runL (g2 L) d 9 false (some .boolean) kc_100 27 [.ref 208, .retAddr 8, .int (nI p), .int (nI 3)] [] h = if T (p + 3) = 99 then runL (g2 L) d 9 false (some .boolean) kc_100 27 [.ref 208, .retAddr 8, .int (nI p), .int (nI 4)] [] h else some (some (.int (nI 0)), h) := by
      rw [e100_27s8, if_neg (by decide), inB_nI (by omega), asr_d (by omega), nI_plus, inB_nI (by omega), asr_d (by omega), ix_nI (by omega), ix_nI (by omega), hX.1 (p + 3) (by omega), show schr 8 3 = nI 99 by decide, nI_plus]
      by_cases q : T (p + 3) = 99
      · rw [if_pos (by rw [q]), if_pos q]
      · rw [if_neg (by rw [nI_eqI (by omega) (by omega)]; omega), if_neg q]
    have t4 := hT (p + 4)
    have st4 : runL (g2 L) d 9 false (some .boolean) kc_100 27 [.ref 208, .retAddr 8, .int (nI p), .int (nI 4)] [] h = if T (p + 4) = 107 then runL (g2 L) d 9 false (some .boolean) kc_100 27 [.ref 208, .retAddr 8, .int (nI p), .int (nI 5)] [] h else some (some (.int (nI 0)), h) := by
      rw [e100_27s8, if_neg (by decide), inB_nI (by omega), asr_d (by omega), nI_plus, inB_nI (by omega), asr_d (by omega), ix_nI (by omega), ix_nI (by omega), hX.1 (p + 4) (by omega), show schr 8 4 = nI 107 by decide, nI_plus]
      by_cases q : T (p + 4) = 107
      · rw [if_pos (by rw [q]), if_pos q]
      · rw [if_neg (by rw [nI_eqI (by omega) (by omega)]; omega), if_neg q]
    rw [st0]
    by_cases q0 : T (p + 0) = 99
    · rw [if_pos q0]
      rw [st1]
      by_cases q1 : T (p + 1) = 108
      · rw [if_pos q1]
        rw [st2]
        by_cases q2 : T (p + 2) = 111
        · rw [if_pos q2]
          rw [st3]
          by_cases q3 : T (p + 3) = 99
          · rw [if_pos q3]
            rw [st4]
            by_cases q4 : T (p + 4) = 107
            · rw [if_pos q4]
              rw [fin, if_pos ⟨by omega, wl.mpr ⟨hn.symm, q0, q1, q2, q3, q4⟩⟩]
            · rw [if_neg q4, if_neg (fun z => q4 (by have z := wl.mp z.2; exact z.2.2.2.2.2))]
          · rw [if_neg q3, if_neg (fun z => q3 (by have z := wl.mp z.2; exact z.2.2.2.2.1))]
        · rw [if_neg q2, if_neg (fun z => q2 (by have z := wl.mp z.2; exact z.2.2.2.1))]
      · rw [if_neg q1, if_neg (fun z => q1 (by have z := wl.mp z.2; exact z.2.2.1))]
    · rw [if_neg q0, if_neg (fun z => q0 (by have z := wl.mp z.2; exact z.2.1))]
  · rw [if_neg (by rw [nI_eqI (by omega) (by omega)]; exact hn), if_neg (fun z => hn (by
      have wl := wl_8 (T := T) (p := p) (n := e - p) (fun k hk => by
        rcases ltr_i.mp (hl (p + k) (by omega) (by omega)) with q | q <;> omega)
      exact (wl.mp z.2).1.symm))]
theorem m100_9 (d : Nat) {p e sz : Nat} {h : PH} (ht : t ≤ 300) (hT : ∀ k, T k < 256) (hX : TX h T t e sz) (hz : sz ≤ 300) (hp : p ≤ e) (he : e ≤ t) (h10 : hI h 210 sz = nI p) (hl : ∀ k, p ≤ k → k < e → ltr (T k) = true) : exec (g2 L) (d + 1) 100 [.ref 208, .retAddr 9] h = some (some (.int (if e - p ≤ 7 ∧ hv T p (e - p) = 149625 then nI 1 else nI 0)), h) := by
  have s := x100s9 L d h
  rw [hX.2.2.2, inB_nI (by omega), asr_d (by omega), ix_nI (by omega), hX.2.2.1, h10, nI_minus hp] at s
  rw [s]
  by_cases hn : 3 = e - p
  · have wl := wl_9 (T := T) (p := p) (n := e - p) (fun k hk => by
      rcases ltr_i.mp (hl (p + k) (by omega) (by omega)) with q | q <;> omega)
    have fin : runL (g2 L) d 9 false (some .boolean) kc_100 27 [.ref 208, .retAddr 9, .int (nI p), .int (nI 3)] [] h = some (some (.int (nI 1)), h) := by
      rw [e100_27s9, if_pos (by decide)]
    rw [if_pos (by rw [hn])]
    have t0 := hT (p + 0)
    have st0 : runL (g2 L) d 9 false (some .boolean) kc_100 27 [.ref 208, .retAddr 9, .int (nI p), .int (nI 0)] [] h = if T (p + 0) = 100 then runL (g2 L) d 9 false (some .boolean) kc_100 27 [.ref 208, .retAddr 9, .int (nI p), .int (nI 1)] [] h else some (some (.int (nI 0)), h) := by
      rw [e100_27s9, if_neg (by decide), inB_nI (by omega), asr_d (by omega), nI_plus, inB_nI (by omega), asr_d (by omega), ix_nI (by omega), ix_nI (by omega), hX.1 (p + 0) (by omega), show schr 9 0 = nI 100 by decide, nI_plus]
      by_cases q : T (p + 0) = 100
      · rw [if_pos (by rw [q]), if_pos q]
      · rw [if_neg (by rw [nI_eqI (by omega) (by omega)]; omega), if_neg q]
    have t1 := hT (p + 1)
    have st1 : runL (g2 L) d 9 false (some .boolean) kc_100 27 [.ref 208, .retAddr 9, .int (nI p), .int (nI 1)] [] h = if T (p + 1) = 97 then runL (g2 L) d 9 false (some .boolean) kc_100 27 [.ref 208, .retAddr 9, .int (nI p), .int (nI 2)] [] h else some (some (.int (nI 0)), h) := by
      rw [e100_27s9, if_neg (by decide), inB_nI (by omega), asr_d (by omega), nI_plus, inB_nI (by omega), asr_d (by omega), ix_nI (by omega), ix_nI (by omega), hX.1 (p + 1) (by omega), show schr 9 1 = nI 97 by decide, nI_plus]
      by_cases q : T (p + 1) = 97
      · rw [if_pos (by rw [q]), if_pos q]
      · rw [if_neg (by rw [nI_eqI (by omega) (by omega)]; omega), if_neg q]
    have t2 := hT (p + 2)
    have st2 : runL (g2 L) d 9 false (some .boolean) kc_100 27 [.ref 208, .retAddr 9, .int (nI p), .int (nI 2)] [] h = if T (p + 2) = 121 then runL (g2 L) d 9 false (some .boolean) kc_100 27 [.ref 208, .retAddr 9, .int (nI p), .int (nI 3)] [] h else some (some (.int (nI 0)), h) := by
      rw [e100_27s9, if_neg (by decide), inB_nI (by omega), asr_d (by omega), nI_plus, inB_nI (by omega), asr_d (by omega), ix_nI (by omega), ix_nI (by omega), hX.1 (p + 2) (by omega), show schr 9 2 = nI 121 by decide, nI_plus]
      by_cases q : T (p + 2) = 121
      · rw [if_pos (by rw [q]), if_pos q]
      · rw [if_neg (by rw [nI_eqI (by omega) (by omega)]; omega), if_neg q]
    rw [st0]
    by_cases q0 : T (p + 0) = 100
    · rw [if_pos q0]
      rw [st1]
      by_cases q1 : T (p + 1) = 97
      · rw [if_pos q1]
        rw [st2]
        by_cases q2 : T (p + 2) = 121
        · rw [if_pos q2]
          rw [fin, if_pos ⟨by omega, wl.mpr ⟨hn.symm, q0, q1, q2⟩⟩]
        · rw [if_neg q2, if_neg (fun z => q2 (by have z := wl.mp z.2; exact z.2.2.2))]
      · rw [if_neg q1, if_neg (fun z => q1 (by have z := wl.mp z.2; exact z.2.2.1))]
    · rw [if_neg q0, if_neg (fun z => q0 (by have z := wl.mp z.2; exact z.2.1))]
  · rw [if_neg (by rw [nI_eqI (by omega) (by omega)]; exact hn), if_neg (fun z => hn (by
      have wl := wl_9 (T := T) (p := p) (n := e - p) (fun k hk => by
        rcases ltr_i.mp (hl (p + k) (by omega) (by omega)) with q | q <;> omega)
      exact (wl.mp z.2).1.symm))]
theorem m100_10 (d : Nat) {p e sz : Nat} {h : PH} (ht : t ≤ 300) (hT : ∀ k, T k < 256) (hX : TX h T t e sz) (hz : sz ≤ 300) (hp : p ≤ e) (he : e ≤ t) (h10 : hI h 210 sz = nI p) (hl : ∀ k, p ≤ k → k < e → ltr (T k) = true) : exec (g2 L) (d + 1) 100 [.ref 208, .retAddr 10] h = some (some (.int (if e - p ≤ 7 ∧ hv T p (e - p) = 9575717 then nI 1 else nI 0)), h) := by
  have s := x100s10 L d h
  rw [hX.2.2.2, inB_nI (by omega), asr_d (by omega), ix_nI (by omega), hX.2.2.1, h10, nI_minus hp] at s
  rw [s]
  by_cases hn : 4 = e - p
  · have wl := wl_10 (T := T) (p := p) (n := e - p) (fun k hk => by
      rcases ltr_i.mp (hl (p + k) (by omega) (by omega)) with q | q <;> omega)
    have fin : runL (g2 L) d 9 false (some .boolean) kc_100 27 [.ref 208, .retAddr 10, .int (nI p), .int (nI 4)] [] h = some (some (.int (nI 1)), h) := by
      rw [e100_27s10, if_pos (by decide)]
    rw [if_pos (by rw [hn])]
    have t0 := hT (p + 0)
    have st0 : runL (g2 L) d 9 false (some .boolean) kc_100 27 [.ref 208, .retAddr 10, .int (nI p), .int (nI 0)] [] h = if T (p + 0) = 100 then runL (g2 L) d 9 false (some .boolean) kc_100 27 [.ref 208, .retAddr 10, .int (nI p), .int (nI 1)] [] h else some (some (.int (nI 0)), h) := by
      rw [e100_27s10, if_neg (by decide), inB_nI (by omega), asr_d (by omega), nI_plus, inB_nI (by omega), asr_d (by omega), ix_nI (by omega), ix_nI (by omega), hX.1 (p + 0) (by omega), show schr 10 0 = nI 100 by decide, nI_plus]
      by_cases q : T (p + 0) = 100
      · rw [if_pos (by rw [q]), if_pos q]
      · rw [if_neg (by rw [nI_eqI (by omega) (by omega)]; omega), if_neg q]
    have t1 := hT (p + 1)
    have st1 : runL (g2 L) d 9 false (some .boolean) kc_100 27 [.ref 208, .retAddr 10, .int (nI p), .int (nI 1)] [] h = if T (p + 1) = 97 then runL (g2 L) d 9 false (some .boolean) kc_100 27 [.ref 208, .retAddr 10, .int (nI p), .int (nI 2)] [] h else some (some (.int (nI 0)), h) := by
      rw [e100_27s10, if_neg (by decide), inB_nI (by omega), asr_d (by omega), nI_plus, inB_nI (by omega), asr_d (by omega), ix_nI (by omega), ix_nI (by omega), hX.1 (p + 1) (by omega), show schr 10 1 = nI 97 by decide, nI_plus]
      by_cases q : T (p + 1) = 97
      · rw [if_pos (by rw [q]), if_pos q]
      · rw [if_neg (by rw [nI_eqI (by omega) (by omega)]; omega), if_neg q]
    have t2 := hT (p + 2)
    have st2 : runL (g2 L) d 9 false (some .boolean) kc_100 27 [.ref 208, .retAddr 10, .int (nI p), .int (nI 2)] [] h = if T (p + 2) = 116 then runL (g2 L) d 9 false (some .boolean) kc_100 27 [.ref 208, .retAddr 10, .int (nI p), .int (nI 3)] [] h else some (some (.int (nI 0)), h) := by
      rw [e100_27s10, if_neg (by decide), inB_nI (by omega), asr_d (by omega), nI_plus, inB_nI (by omega), asr_d (by omega), ix_nI (by omega), ix_nI (by omega), hX.1 (p + 2) (by omega), show schr 10 2 = nI 116 by decide, nI_plus]
      by_cases q : T (p + 2) = 116
      · rw [if_pos (by rw [q]), if_pos q]
      · rw [if_neg (by rw [nI_eqI (by omega) (by omega)]; omega), if_neg q]
    have t3 := hT (p + 3)
    have st3 : runL (g2 L) d 9 false (some .boolean) kc_100 27 [.ref 208, .retAddr 10, .int (nI p), .int (nI 3)] [] h = if T (p + 3) = 101 then runL (g2 L) d 9 false (some .boolean) kc_100 27 [.ref 208, .retAddr 10, .int (nI p), .int (nI 4)] [] h else some (some (.int (nI 0)), h) := by
      rw [e100_27s10, if_neg (by decide), inB_nI (by omega), asr_d (by omega), nI_plus, inB_nI (by omega), asr_d (by omega), ix_nI (by omega), ix_nI (by omega), hX.1 (p + 3) (by omega), show schr 10 3 = nI 101 by decide, nI_plus]
      by_cases q : T (p + 3) = 101
      · rw [if_pos (by rw [q]), if_pos q]
      · rw [if_neg (by rw [nI_eqI (by omega) (by omega)]; omega), if_neg q]
    rw [st0]
    by_cases q0 : T (p + 0) = 100
    · rw [if_pos q0]
      rw [st1]
      by_cases q1 : T (p + 1) = 97
      · rw [if_pos q1]
        rw [st2]
        by_cases q2 : T (p + 2) = 116
        · rw [if_pos q2]
          rw [st3]
          by_cases q3 : T (p + 3) = 101
          · rw [if_pos q3]
            rw [fin, if_pos ⟨by omega, wl.mpr ⟨hn.symm, q0, q1, q2, q3⟩⟩]
          · rw [if_neg q3, if_neg (fun z => q3 (by have z := wl.mp z.2; exact z.2.2.2.2))]
        · rw [if_neg q2, if_neg (fun z => q2 (by have z := wl.mp z.2; exact z.2.2.2.1))]
      · rw [if_neg q1, if_neg (fun z => q1 (by have z := wl.mp z.2; exact z.2.2.1))]
    · rw [if_neg q0, if_neg (fun z => q0 (by have z := wl.mp z.2; exact z.2.1))]
  · rw [if_neg (by rw [nI_eqI (by omega) (by omega)]; exact hn), if_neg (fun z => hn (by
      have wl := wl_10 (T := T) (p := p) (n := e - p) (fun k hk => by
        rcases ltr_i.mp (hl (p + k) (by omega) (by omega)) with q | q <;> omega)
      exact (wl.mp z.2).1.symm))]
end Slex

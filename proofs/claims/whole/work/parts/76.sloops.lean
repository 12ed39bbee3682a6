-- PART: bells, the searches, for any telling R that both sides answer.
def StC (L : Nat) (R : Nat → Nat → Prop) (I : PH → Prop) : Prop := ∀ d h bell t, I h → bell < 4 → t < 576000 → ∃ v h', exec (g2 L) (d + 6) 128 [.ref 2, .int (nI bell), .int (nI t)] h = some (some (.int (nI v)), h') ∧ v ≤ 1 ∧ (v = 1 ↔ R bell t) ∧ I h'
def StM (L : Nat) (R : Nat → Nat → Prop) (I : PH → Prop) : Prop := ∀ d h bell t, I h → bell < 4 → t < 576000 → ∃ v h', exec (g2 L) (d + 6) 244 [.ref 253, .int (nI bell), .int (nI t)] h = some (some (.int (nI v)), h') ∧ v ≤ 1 ∧ (v = 1 ↔ R bell t) ∧ I h'
def Ft (R : Nat → Nat → Prop) (o p a b : Nat) (x : Int32) : Prop := (x = m1 ∧ ∀ t, a ≤ t → t < b → ¬ (R o t ∧ R p t)) ∨ ∃ t, a ≤ t ∧ t < b ∧ (R o t ∧ R p t) ∧ (∀ t', a ≤ t' → t' < t → ¬ (R o t' ∧ R p t')) ∧ x = nI t
def Lt (R : Nat → Nat → Prop) (o M e : Nat) (x : Int32) : Prop := (x = m1 ∧ ∀ t, e ≤ t → t ≤ M → ¬ R o t) ∨ ∃ t, e ≤ t ∧ t ≤ M ∧ R o t ∧ (∀ t', t < t' → t' ≤ M → ¬ R o t') ∧ x = nI t
def Ls (R : Nat → Nat → Prop) (o M e : Nat) (x : Int32) : Prop := (x = m1 ∧ ∀ t, e ≤ t → t ≤ M → ¬ R o t) ∨ ∃ t, e ≤ t ∧ t ≤ M ∧ R o t ∧ (∀ t', t < t' → t' ≤ M → ¬ R o t') ∧ x = nI (M - t)
theorem Ft.one {R : Nat → Nat → Prop} {o p a b : Nat} {x y : Int32} (h1 : Ft R o p a b x) (h2 : Ft R o p a b y) : x = y := by
  rcases h1 with ⟨rfl, h1⟩ | ⟨t, a1, a2, a3, a4, rfl⟩
  · rcases h2 with ⟨rfl, _⟩ | ⟨t', c1, c2, c3, c4, rfl⟩
    · rfl
    · exact absurd c3 (h1 t' c1 c2)
  · rcases h2 with ⟨rfl, h2⟩ | ⟨t', c1, c2, c3, c4, rfl⟩
    · exact absurd a3 (h2 t a1 a2)
    · have : t = t' := by
        rcases Nat.lt_trichotomy t t' with q | q | q
        · exact absurd a3 (c4 t a1 q)
        · exact q
        · exact absurd c3 (a4 t' c1 q)
      rw [this]
theorem LtLs {R : Nat → Nat → Prop} {o M e : Nat} {x y : Int32} (h1 : Lt R o M e x) (h2 : Ls R o M e y) : (x = m1 ∧ y = m1) ∨ ∃ t, e ≤ t ∧ t ≤ M ∧ x = nI t ∧ y = nI (M - t) := by
  rcases h1 with ⟨rfl, h1⟩ | ⟨t, a1, a2, a3, a4, rfl⟩
  · rcases h2 with ⟨rfl, _⟩ | ⟨t', c1, c2, c3, c4, rfl⟩
    · exact Or.inl ⟨rfl, rfl⟩
    · exact absurd c3 (h1 t' c1 c2)
  · rcases h2 with ⟨rfl, h2⟩ | ⟨t', c1, c2, c3, c4, rfl⟩
    · exact absurd a3 (h2 t a1 a2)
    · have : t = t' := by
        rcases Nat.lt_trichotomy t t' with q | q | q
        · exact absurd c3 (a4 t' q c2)
        · exact q
        · exact absurd a3 (c4 t q a2)
      subst this
      exact Or.inr ⟨t, a1, a2, rfl, rfl⟩
noncomputable def n01 (P : Prop) : Nat := @ite _ P (Classical.propDecidable P) 1 0
theorem n01_t {P : Prop} (h : P) : n01 P = 1 := if_pos h
theorem n01_f {P : Prop} (h : ¬ P) : n01 P = 0 := if_neg h
noncomputable def cnt (R : Nat → Nat → Prop) (o a : Nat) : Nat → Nat
  | 0 => 0
  | n + 1 => cnt R o a n + n01 (R o (a + n))
theorem cnt_le {R : Nat → Nat → Prop} {o a : Nat} : ∀ n, cnt R o a n ≤ n
  | 0 => Nat.le_refl _
  | n + 1 => by
    have := cnt_le (R := R) (o := o) (a := a) n
    rw [cnt]
    by_cases z : R o (a + n)
    · rw [n01_t z]
      omega
    · rw [n01_f z]
      omega
section Sloops
variable {L : Nat} {R : Nat → Nat → Prop} {I : PH → Prop}
theorem m136_55 (hc : StC L R I) {d o p a e : Nat} (ho : o < 4) (hp : p < 4) (he : e ≤ 576000) (x4 : Int32) : ∀ (u t : Nat) (h : PH), t + u = e → a ≤ t → I h → (∀ t', a ≤ t' → t' < t → ¬ (R o t' ∧ R p t')) → ∃ x h', runL (g2 L) (d + 6) 0 false (some .int) kc_136 55 [.ref 2, .int (nI o), .int (nI p), .int (nI a), .int x4, .int (nI e), .int (nI t)] [] h = some (some (.int x), h') ∧ Ft R o p a e x ∧ I h' := by
  intro u
  induction u with
  | zero =>
    intro t h ht ha hI0 hn
    refine ⟨m1, h, ?_, Or.inl ⟨rfl, fun t' q1 q2 => hn t' q1 (by omega)⟩, hI0⟩
    rw [e136_55, if_pos (by rw [nI_leN (by omega) (by omega)]; omega)]
  | succ u ih =>
    intro t h ht ha hI0 hn
    have s0 := e136_55 L (d + 6) (nI o) (nI p) (nI a) x4 (nI e) (nI t) h
    obtain ⟨v, h1, v1, v2, v3, v4⟩ := hc d h o t hI0 ho (by omega)
    rw [if_neg (by rw [nI_leN (by omega) (by omega)]; omega), v1, cI_s, nI_plus] at s0
    by_cases z : v = 1
    · obtain ⟨w, h2, w1, w2, w3, w4⟩ := hc d h1 p t v4 hp (by omega)
      rw [z, if_neg (by decide), w1, cI_s] at s0
      by_cases y : w = 1
      · rw [y, if_neg (by decide)] at s0
        exact ⟨nI t, h2, s0, Or.inr ⟨t, ha, by omega, ⟨v3.mp z, w3.mp y⟩, hn, rfl⟩, w4⟩
      · rw [show w = 0 by omega, if_pos rfl] at s0
        obtain ⟨x, h', r1, r2⟩ := ih (t + 1) h2 (by omega) (by omega) w4 (fun t' q1 q2 => by
          by_cases e : t' = t
          · rw [e]; exact fun q => y (w3.mpr q.2)
          · exact hn t' q1 (by omega))
        exact ⟨x, h', s0.trans r1, r2⟩
    · rw [show v = 0 by omega, if_pos rfl] at s0
      obtain ⟨x, h', r1, r2⟩ := ih (t + 1) h1 (by omega) (by omega) v4 (fun t' q1 q2 => by
        by_cases e : t' = t
        · rw [e]; exact fun q => z (v3.mpr q.1)
        · exact hn t' q1 (by omega))
      exact ⟨x, h', s0.trans r1, r2⟩
theorem m249_3 (hc : StM L R I) {d o p a s : Nat} (ho : o < 4) (hp : p < 4) (ha4 : a ≤ 576000) (hs : s ≤ 28800) : ∀ (u t : Nat) (h : PH), t + u = min (a + s) 576000 → a ≤ t → I h → (∀ t', a ≤ t' → t' < t → ¬ (R o t' ∧ R p t')) → ∃ x h', runL (g2 L) (d + 6) 11 false (some .int) kc_249 3 [.ref 253, .int (nI o), .int (nI p), .int (nI a), .int (nI s), .int (nI t)] [] h = some (some (.int x), h') ∧ Ft R o p a (min (a + s) 576000) x ∧ I h' := by
  intro u
  induction u with
  | zero =>
    intro t h ht ha hI0 hn
    refine ⟨m1, h, ?_, Or.inl ⟨rfl, fun t' q1 q2 => hn t' q1 (by omega)⟩, hI0⟩
    rw [e249_3, nI_plus]
    by_cases q : a + s ≤ t
    · rw [if_pos (by rw [nI_leN (by omega) (by omega)]; omega)]
    · rw [if_neg (by rw [nI_leN (by omega) (by omega)]; omega), if_pos (by rw [nI_ltN (by omega) (by omega)]; omega)]
  | succ u ih =>
    intro t h ht ha hI0 hn
    have s0 := e249_3 L (d + 6) (nI o) (nI p) (nI a) (nI s) (nI t) h
    obtain ⟨v, h1, v1, v2, v3, v4⟩ := hc d h o t hI0 ho (by omega)
    rw [nI_plus, if_neg (by rw [nI_leN (by omega) (by omega)]; omega), if_neg (by rw [nI_ltN (by omega) (by omega)]; omega), v1, cI_s, nI_plus] at s0
    by_cases z : v = 1
    · obtain ⟨w, h2, w1, w2, w3, w4⟩ := hc d h1 p t v4 hp (by omega)
      rw [z, if_neg (by decide), w1, cI_s] at s0
      by_cases y : w = 1
      · rw [y, if_neg (by decide)] at s0
        exact ⟨nI t, h2, s0, Or.inr ⟨t, ha, by omega, ⟨v3.mp z, w3.mp y⟩, hn, rfl⟩, w4⟩
      · rw [show w = 0 by omega, if_pos rfl] at s0
        obtain ⟨x, h', r1, r2⟩ := ih (t + 1) h2 (by omega) (by omega) w4 (fun t' q1 q2 => by
          by_cases e : t' = t
          · rw [e]; exact fun q => y (w3.mpr q.2)
          · exact hn t' q1 (by omega))
        exact ⟨x, h', s0.trans r1, r2⟩
    · rw [show v = 0 by omega, if_pos rfl] at s0
      obtain ⟨x, h', r1, r2⟩ := ih (t + 1) h1 (by omega) (by omega) v4 (fun t' q1 q2 => by
        by_cases e : t' = t
        · rw [e]; exact fun q => z (v3.mpr q.1)
        · exact hn t' q1 (by omega))
      exact ⟨x, h', s0.trans r1, r2⟩
theorem m249 (hc : StM L R I) (d : Nat) {o p a s : Nat} {h : PH} (ho : o < 4) (hp : p < 4) (ha4 : a ≤ 576000) (hs : s ≤ 28800) (hI0 : I h) : ∃ x h', exec (g2 L) (d + 7) 249 [.ref 253, .int (nI o), .int (nI p), .int (nI a), .int (nI s)] h = some (some (.int x), h') ∧ Ft R o p a (min (a + s) 576000) x ∧ I h' := by
  rw [x249]
  exact m249_3 hc ho hp ha4 hs (min (a + s) 576000 - a) a h (by omega) (Nat.le_refl _) hI0 (fun t' q1 q2 => by omega)
/-- the strip that is gone by: none, or one with its period -/
def Ch (R : Nat → Nat → Prop) (I : PH → Prop) : Prop := ((∀ h, I h → hI h 3 5 = m1) ∧ ∀ b t, ¬ R b t) ∨ ∃ s p, s < 4 ∧ (∀ h, I h → hI h 3 5 = nI s ∧ hI h (213 + 10 * s) 12 = nI p) ∧ (p = 576000 ∨ (1 ≤ p ∧ p ≤ 10080 ∧ ∀ b t, R b (t + p) ↔ R b t))
theorem per_mul {p : Nat} (hp : ∀ b t, R b (t + p) ↔ R b t) (b t : Nat) : ∀ k, R b (t + p * k) ↔ R b t
  | 0 => by rw [Nat.mul_zero, Nat.add_zero]
  | k + 1 => by
    rw [Nat.mul_succ, ← Nat.add_assoc, hp]
    exact per_mul hp b t k
theorem Ft.per {o q a s p : Nat} {x : Int32} (h1 : 1 ≤ p) (hp : ∀ b t, R b (t + p) ↔ R b t) (hx : Ft R o q a (min (a + p) 576000) x) (hps : p ≤ s) : Ft R o q a (min (a + s) 576000) x := by
  rcases hx with ⟨rfl, hx⟩ | ⟨t, a1, a2, a3, a4, rfl⟩
  · refine Or.inl ⟨rfl, fun t q1 q2 hr => ?_⟩
    have e : t = a + (t - a) % p + p * ((t - a) / p) := by
      have := Nat.mod_add_div (t - a) p
      omega
    have hlt : (t - a) % p < p := Nat.mod_lt _ (by omega)
    have hle : a + (t - a) % p ≤ t := by
      have := Nat.mod_le (t - a) p
      omega
    refine hx (a + (t - a) % p) (by omega) (by omega) ⟨?_, ?_⟩
    · rw [← per_mul hp o (a + (t - a) % p) ((t - a) / p), ← e]
      exact hr.1
    · rw [← per_mul hp q (a + (t - a) % p) ((t - a) / p), ← e]
      exact hr.2
  · exact Or.inr ⟨t, a1, by omega, a3, a4, rfl⟩
theorem m136 (hc : StC L R I) (hC : Ch R I) (d : Nat) {o p a s : Nat} {h : PH} (ho : o < 4) (hp : p < 4) (ha4 : a ≤ 576000) (hs : 1 ≤ s ∧ s ≤ 28800) (hI0 : I h) : ∃ x h', exec (g2 L) (d + 7) 136 [.ref 2, .int (nI o), .int (nI p), .int (nI a), .int (nI s)] h = some (some (.int x), h') ∧ Ft R o p a (min (a + s) 576000) x ∧ I h' := by
  rcases hC with ⟨c1, c2⟩ | ⟨w, q, c1, c2, c3⟩
  · refine ⟨m1, h, ?_, Or.inl ⟨rfl, fun t _ _ z => c2 _ _ z.1⟩, hI0⟩
    rw [x136, c1 h hI0, if_pos (by decide)]
  · obtain ⟨g1, g2'⟩ := c2 h hI0
    have kk : kx_K (213 + 10 * w) = 30 := by
      have : w = 0 ∨ w = 1 ∨ w = 2 ∨ w = 3 := by omega
      rcases this with rfl | rfl | rfl | rfl <;> decide
    have s0 := x136 L (d + 6) (nI o) (nI p) (nI a) (nI s) h
    rw [g1, if_neg (by rw [nI_ltN (by omega) (by omega)]; omega), if_pos (by rw [nI_ltN (by omega) (by omega)]; omega), inB_nI (by omega), asr_d (by omega), ix_nI (by omega), okA_of kk (by omega), asr_true, g2'] at s0
    have q6 : q ≤ 576000 := by omega
    have e1 : (if nI q < nI s then nI q else nI s) = nI (min q s) := by
      by_cases z : q < s
      · rw [if_pos (by rw [nI_ltN (by omega) (by omega)]; omega), Nat.min_eq_left (by omega)]
      · rw [if_neg (by rw [nI_ltN (by omega) (by omega)]; omega), Nat.min_eq_right (by omega)]
    have e2 : (if nI 576000 < nI a + nI (min q s) then nI 576000 else nI a + nI (min q s)) = nI (min (a + min q s) 576000) := by
      rw [nI_plus]
      by_cases z : 576000 < a + min q s
      · rw [if_pos (by rw [nI_ltN (by omega) (by omega)]; omega), Nat.min_eq_right (show 576000 ≤ a + min q s by omega)]
      · rw [if_neg (by rw [nI_ltN (by omega) (by omega)]; omega), Nat.min_eq_left (show a + min q s ≤ 576000 by omega)]
    rw [e1, e2] at s0
    obtain ⟨x, h', r1, r2, r3⟩ := m136_55 hc (d := d) (a := a) (e := min (a + min q s) 576000) ho hp (by omega) (nI s) (min (a + min q s) 576000 - a) a h (by omega) (Nat.le_refl _) hI0 (fun t' q1 q2 => by omega)
    refine ⟨x, h', s0.trans r1, ?_, r3⟩
    by_cases z : q < s
    · rw [Nat.min_eq_left (Nat.le_of_lt z)] at r2
      rcases c3 with c3 | ⟨c3, c4, c5⟩
      · omega
      · exact r2.per c3 c5 (by omega)
    · rw [Nat.min_eq_right (show s ≤ q by omega)] at r2
      exact r2
theorem m141_15 (hc : StC L R I) {d o M e : Nat} (ho : o < 4) (hM : M < 576000) (x2 : Int32) : ∀ (u t : Nat) (h : PH), e + u = t → t ≤ M → I h → (∀ t', t < t' → t' ≤ M → ¬ R o t') → ∃ x h', runL (g2 L) (d + 6) 0 false (some .int) kc_141 15 [.ref 2, .int (nI o), .int x2, .int (nI e), .int (nI t)] [] h = some (some (.int x), h') ∧ Lt R o M e x ∧ I h' := by
  intro u
  induction u with
  | zero =>
    intro t h ht htM hI0 hn
    have s0 := e141_15 L (d + 6) (nI o) x2 (nI e) (nI t) h
    obtain ⟨v, h1, v1, v2, v3, v4⟩ := hc d h o t hI0 ho (by omega)
    rw [if_neg (by rw [nI_ltN (by omega) (by omega)]; omega), v1, cI_s] at s0
    by_cases z : v = 1
    · rw [z, if_neg (by decide)] at s0
      exact ⟨nI t, h1, s0, Or.inr ⟨t, by omega, htM, v3.mp z, hn, rfl⟩, v4⟩
    · have fin : runL (g2 L) (d + 6) 0 false (some .int) kc_141 15 [.ref 2, .int (nI o), .int x2, .int (nI e), .int (nI t + m1)] [] h1 = some (some (.int m1), h1) := by
        rw [e141_15, if_pos]
        cases t with
        | zero =>
          rw [show nI 0 + m1 = m1 by decide]
          exact (m1_lt_nI (by omega)).mpr trivial
        | succ t =>
          rw [nI_plus_m1, nI_ltN (by omega) (by omega)]
          omega
      rw [show v = 0 by omega, if_pos rfl, fin] at s0
      refine ⟨m1, h1, s0, Or.inl ⟨rfl, fun t' q1 q2 => ?_⟩, v4⟩
      by_cases q : t' = t
      · rw [q]; exact fun w => z (v3.mpr w)
      · exact hn t' (by omega) q2
  | succ u ih =>
    intro t h ht htM hI0 hn
    have s0 := e141_15 L (d + 6) (nI o) x2 (nI e) (nI t) h
    obtain ⟨v, h1, v1, v2, v3, v4⟩ := hc d h o t hI0 ho (by omega)
    rw [if_neg (by rw [nI_ltN (by omega) (by omega)]; omega), v1, cI_s] at s0
    by_cases z : v = 1
    · rw [z, if_neg (by decide)] at s0
      exact ⟨nI t, h1, s0, Or.inr ⟨t, by omega, htM, v3.mp z, hn, rfl⟩, v4⟩
    · have e1 : nI t + m1 = nI (t - 1) := by
        have := nI_plus_m1 (t - 1)
        rw [show t - 1 + 1 = t by omega] at this
        exact this
      rw [show v = 0 by omega, if_pos rfl, e1] at s0
      obtain ⟨x, h', r1, r2⟩ := ih (t - 1) h1 (by omega) (by omega) v4 (fun t' q1 q2 => by
        by_cases q : t' = t
        · rw [q]; exact fun w => z (v3.mpr w)
        · exact hn t' (by omega) q2)
      exact ⟨x, h', s0.trans r1, r2⟩
theorem m141 (hc : StC L R I) (d : Nat) {o M : Nat} {h : PH} (ho : o < 4) (hM : M < 576000) (hI0 : I h) : ∃ x h', exec (g2 L) (d + 7) 141 [.ref 2, .int (nI o), .int (nI M)] h = some (some (.int x), h') ∧ Lt R o M (M - 1439) x ∧ I h' := by
  have e1 : (if nI 0 < nI M - nI 1440 + nI 1 then nI M - nI 1440 + nI 1 else nI 0) = nI (M - 1439) := by
    have z : (nI M - nI 1440 + nI 1).toInt = (M : Int) - 1439 := by
      have a1 : (nI M).toInt = M := by rw [nI_iv, iv_toInt (by omega) (by omega)]
      have a2 : (nI 1440).toInt = 1440 := by decide
      have a3 : (nI 1).toInt = 1 := by decide
      have a4 : (nI M - nI 1440).toInt = (M : Int) - 1440 := by rw [Jvm.Kit.i32_sub (by rw [a1, a2]; omega) (by rw [a1, a2]; omega), a1, a2]
      rw [Jvm.Kit.i32_add (by rw [a4, a3]; omega) (by rw [a4, a3]; omega), a4, a3]
      omega
    have z0 : (nI 0).toInt = 0 := by decide
    by_cases q : 1440 ≤ M
    · rw [if_pos (by rw [Int32.lt_iff_toInt_lt, z, z0]; omega), nI_minus q, nI_plus, show M - 1440 + 1 = M - 1439 by omega]
    · rw [if_neg (by rw [Int32.lt_iff_toInt_lt, z, z0]; omega), show M - 1439 = 0 by omega]
  rw [x141, e1]
  exact m141_15 hc ho hM (nI M) (M - (M - 1439)) M h (by omega) (Nat.le_refl _) hI0 (fun t' q1 q2 => by omega)
theorem m253_2 (hc : StM L R I) {d o M : Nat} (ho : o < 4) (hM : M < 576000) : ∀ (u k : Nat) (h : PH), k + u = M - (M - 1439) + 1 → I h → (∀ t', t' ≤ M → M < t' + k → ¬ R o t') → ∃ x h', runL (g2 L) (d + 6) 11 false (some .int) kc_253 2 [.ref 253, .int (nI o), .int (nI M), .int (nI k)] [] h = some (some (.int x), h') ∧ Ls R o M (M - 1439) x ∧ I h' := by
  intro u
  induction u with
  | zero =>
    intro k h hk hI0 hn
    refine ⟨m1, h, ?_, Or.inl ⟨rfl, fun t q1 q2 => hn t q2 (by omega)⟩, hI0⟩
    rw [e253_2]
    by_cases q : 1440 ≤ k
    · rw [if_pos (by rw [nI_leN (by omega) (by omega)]; omega)]
    · rw [if_neg (by rw [nI_leN (by omega) (by omega)]; omega), if_pos (by rw [nI_ltN (by omega) (by omega)]; omega)]
  | succ u ih =>
    intro k h hk hI0 hn
    have s0 := e253_2 L (d + 6) (nI o) (nI M) (nI k) h
    obtain ⟨v, h1, v1, v2, v3, v4⟩ := hc d h o (M - k) hI0 ho (by omega)
    rw [if_neg (by rw [nI_leN (by omega) (by omega)]; omega), if_neg (by rw [nI_ltN (by omega) (by omega)]; omega), nI_minus (by omega), v1, cI_s, nI_plus] at s0
    by_cases z : v = 1
    · rw [z, if_neg (by decide)] at s0
      exact ⟨nI k, h1, s0, Or.inr ⟨M - k, by omega, by omega, v3.mp z, fun t' q1 q2 => hn t' q2 (by omega), by rw [show M - (M - k) = k by omega]⟩, v4⟩
    · rw [show v = 0 by omega, if_pos rfl] at s0
      obtain ⟨x, h', r1, r2⟩ := ih (k + 1) h1 (by omega) v4 (fun t' q1 q2 => by
        by_cases q : t' = M - k
        · rw [q]; exact fun w => z (v3.mpr w)
        · exact hn t' q1 (by omega))
      exact ⟨x, h', s0.trans r1, r2⟩
theorem m253 (hc : StM L R I) (d : Nat) {o M : Nat} {h : PH} (ho : o < 4) (hM : M < 576000) (hI0 : I h) : ∃ x h', exec (g2 L) (d + 7) 253 [.ref 253, .int (nI o), .int (nI M)] h = some (some (.int x), h') ∧ Ls R o M (M - 1439) x ∧ I h' := by
  rw [x253]
  exact m253_2 hc ho hM (M - (M - 1439) + 1) 0 h (by omega) hI0 (fun t' q1 q2 => by omega)
theorem m137_25 (hc : StC L R I) {d o D : Nat} (ho : o < 4) (hD : D < 400) : ∀ (u i : Nat) (h : PH), i + u = 1440 → I h → ∃ h', runL (g2 L) (d + 6) 0 false (some .int) kc_137 25 [.ref 2, .int (nI o), .int (nI D), .int (nI (cnt R o (D * 1440) i)), .int (nI i)] [] h = some (some (.int (nI (cnt R o (D * 1440) 1440))), h') ∧ I h' := by
  intro u
  induction u with
  | zero =>
    intro i h hi hI0
    have : i = 1440 := by omega
    subst this
    refine ⟨h, ?_, hI0⟩
    rw [e137_25, if_pos (by decide)]
  | succ u ih =>
    intro i h hi hI0
    have s0 := e137_25 L (d + 6) (nI o) (nI D) (nI (cnt R o (D * 1440) i)) (nI i) h
    obtain ⟨v, h1, v1, v2, v3, v4⟩ := hc d h o (D * 1440 + i) hI0 ho (by omega)
    rw [if_neg (by rw [nI_leN (by omega) (by omega)]; omega), nI_times, nI_plus, v1, cI_s, nI_plus, nI_plus] at s0
    obtain ⟨h', r1, r2⟩ := ih (i + 1) h1 (by omega) v4
    refine ⟨h', ?_, r2⟩
    by_cases z : v = 1
    · rw [cnt, n01_t (v3.mp z)] at r1
      rw [z, if_neg (by decide)] at s0
      exact s0.trans r1
    · rw [cnt, n01_f (fun q => z (v3.mpr q)), Nat.add_zero] at r1
      rw [show v = 0 by omega, if_pos rfl] at s0
      exact s0.trans r1
theorem m250_29 (hc : StM L R I) {d o D : Nat} (ho : o < 4) (hD : D < 400) : ∀ (u i : Nat) (h : PH), i + u = 1440 → I h → ∃ h', runL (g2 L) (d + 6) 11 false (some .int) kc_250 29 [.ref 253, .int (nI o), .int (nI D), .int (nI (cnt R o (D * 1440) i)), .int (nI (D * 1440 + i))] [] h = some (some (.int (nI (cnt R o (D * 1440) 1440))), h') ∧ I h' := by
  intro u
  induction u with
  | zero =>
    intro i h hi hI0
    have : i = 1440 := by omega
    subst this
    refine ⟨h, ?_, hI0⟩
    rw [e250_29, nI_times, nI_plus, if_pos (by rw [nI_leN (by omega) (by omega)]; omega)]
  | succ u ih =>
    intro i h hi hI0
    have s0 := e250_29 L (d + 6) (nI o) (nI D) (nI (cnt R o (D * 1440) i)) (nI (D * 1440 + i)) h
    obtain ⟨v, h1, v1, v2, v3, v4⟩ := hc d h o (D * 1440 + i) hI0 ho (by omega)
    rw [nI_times, nI_plus, if_neg (by rw [nI_leN (by omega) (by omega)]; omega), v1, cI_s, nI_plus, nI_plus, nI_plus] at s0
    obtain ⟨h', r1, r2⟩ := ih (i + 1) h1 (by omega) v4
    rw [← Nat.add_assoc (D * 1440) i 1] at r1
    refine ⟨h', ?_, r2⟩
    by_cases z : v = 1
    · rw [cnt, n01_t (v3.mp z)] at r1
      rw [z, if_neg (by decide)] at s0
      exact s0.trans r1
    · rw [cnt, n01_f (fun q => z (v3.mpr q))] at r1
      rw [show v = 0 by omega, if_pos rfl] at s0
      exact s0.trans r1
end Sloops

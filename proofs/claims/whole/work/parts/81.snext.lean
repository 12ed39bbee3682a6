-- PART: strips, the reference's next token (printed in part by a program of mine).
def nvM (T : Nat → Nat) (p : Nat) : Nat → Nat
  | 0 => 0
  | n + 1 => if nvM T p n ≤ 99999 then 10 * nvM T p n + T (p + n) - 48 else nvM T p n
theorem nvM_le {T : Nat → Nat} {p : Nat} (hT : ∀ k, T k < 256) : ∀ n, nvM T p n < 1100000
  | 0 => by
    show 0 < 1100000
    decide
  | n + 1 => by
    have := nvM_le hT (p := p) n
    have := hT (p + n)
    rw [nvM]
    split <;> omega
theorem nvCM {T : Nat → Nat} {p : Nat} : ∀ n, (∀ k, k < n → 48 ≤ T (p + k) ∧ T (p + k) ≤ 57) → (nvM T p n = nvC T p n ∧ nvC T p n ≤ 9999) ∨ (nvC T p n = 10000 ∧ 10000 ≤ nvM T p n)
  | 0, _ => Or.inl ⟨rfl, Nat.zero_le _⟩
  | n + 1, h => by
    have ih := nvCM n (fun k hk => h k (by omega))
    have hd := h n (by omega)
    rw [nvM, nvC]
    rcases ih with ⟨i1, i2⟩ | ⟨i1, i2⟩
    · rw [i1, if_pos (by omega)]
      by_cases q : nvC T p n * 10 + T (p + n) - 48 < 10000
      · rw [if_pos q]
        exact Or.inl ⟨by omega, by omega⟩
      · rw [if_neg q]
        exact Or.inr ⟨rfl, by omega⟩
    · rw [if_neg (show ¬ nvC T p n * 10 + T (p + n) - 48 < 10000 by omega)]
      refine Or.inr ⟨rfl, ?_⟩
      split <;> omega
/-- a token of the reference (sort s, told x) is the class's of kind k with the number v -/
def MT (k v : Nat) (s x : Int32) : Prop := (k = 0 ∧ s = nI 0) ∨ (k = 1 ∧ (s = nI 4 ∨ (s = nI 3 ∧ x = nI 44))) ∨ (k = 2 ∧ s = nI 2 ∧ ∃ w, x = nI w ∧ w < 1100000 ∧ ((w = v ∧ v ≤ 9999) ∨ (v = 10000 ∧ 10000 ≤ w))) ∨ (((3 ≤ k ∧ k ≤ 5 ∧ x = nI (k - 3)) ∨ (9 ≤ k ∧ k ≤ 16 ∧ x = nI (k - 6))) ∧ s = nI 1) ∨ (s = nI 3 ∧ ((k = 6 ∧ x = nI 40) ∨ (k = 7 ∧ x = nI 41) ∨ (k = 8 ∧ x = nI 59) ∨ (17 ≤ k ∧ k ≤ 27 ∧ x = nI (oc k))))
/-- the reference at a token that begins at q and ends at e -/
def LX (h : PH) (T : Nat → Nat) (t q : Nat) : Prop := hI h 253 38 = nI t ∧ hI h 253 40 = nI q ∧ ((q = t ∧ hI h 253 41 = nI 0) ∨ (q < t ∧ hI h 253 39 = nI (tkE T t q) ∧ MT (tkK T t q) (tkV T t q) (hI h 253 41) (hI h 253 42)))
def sb (c : Nat) : Int32 := (nI c).toInt8.toInt32
theorem sb_lo : ∀ c, c < 128 → sb c = nI c := by decide +kernel
theorem sb_hi : ∀ c, c < 256 → 128 ≤ c → sb c < nI 0 := by decide +kernel
theorem sb_eq {c j : Nat} (hc : c < 256) (hj : j < 128) : (sb c = nI j) ↔ c = j := by
  by_cases q : c < 128
  · rw [sb_lo c q, nI_eqI (by omega) (by omega)]
  · have := sb_hi c hc (by omega)
    constructor
    · intro z
      rw [z, nI_ltN (by omega) (by omega)] at this
      omega
    · intro z
      omega
theorem sb_in {c a b : Nat} (hc : c < 256) (ha : a < 128) (hb : b < 128) : (nI a ≤ sb c ∧ sb c ≤ nI b) ↔ a ≤ c ∧ c ≤ b := by
  by_cases q : c < 128
  · rw [sb_lo c q, nI_leN (by omega) (by omega), nI_leN (by omega) (by omega)]
  · have h1 := sb_hi c hc (by omega)
    constructor
    · intro z
      have := Int32.lt_of_le_of_lt z.1 h1
      rw [nI_ltN (by omega) (by omega)] at this
      omega
    · intro z
      omega
section Snext
variable {L : Nat} {T : Nat → Nat} {t : Nat}
/-- the reference's tape under its reader -/
def TM (h : PH) (T : Nat → Nat) (t p : Nat) : Prop := (∀ k, k < t → hI h 256 k = sb (T k)) ∧ hI h 253 38 = nI t ∧ hI h 253 39 = nI p
def Fx (h h' : PH) : Prop := (∀ a, a ≠ 253 → hI h' a = hI h a) ∧ (∀ k, ¬ (39 ≤ k ∧ k ≤ 42) → hI h' 253 k = hI h 253 k) ∧ hR h' = hR h
theorem Fx.rf {h : PH} : Fx h h := ⟨fun _ _ => rfl, fun _ _ => rfl, rfl⟩
theorem Fx.tr {a b c : PH} (h1 : Fx a b) (h2 : Fx b c) : Fx a c := ⟨fun x p => (h2.1 x p).trans (h1.1 x p), fun k z => (h2.2.1 k z).trans (h1.2.1 k z), h2.2.2.trans h1.2.2⟩
theorem Fx.w {h : PH} {k : Nat} {v : Int32} (hk : 39 ≤ k ∧ k ≤ 42) : Fx h (wI h 253 k v) := ⟨fun x p => wI_ne p, fun j hj => by rw [hI_wI, if_neg (by omega)], rfl⟩
theorem TM.fx {h h' : PH} {p p' : Nat} (hX : TM h T t p) (hF : Fx h h') (h9 : hI h' 253 39 = nI p') : TM h' T t p' := ⟨fun k hk => by rw [hF.1 256 (by omega)]; exact hX.1 k hk, by rw [hF.2.1 38 (by omega)]; exact hX.2.1, h9⟩
theorem TM.at {h : PH} {p p' : Nat} (hX : TM h T t p) : TM (wI h 253 39 (nI p')) T t p' := hX.fx (Fx.w (by omega)) (by rw [hI_wI, if_pos ⟨rfl, rfl⟩])
theorem m216 (d : Nat) {c : Nat} (hc : c < 256) (h : PH) : exec (g2 L) (d + 2) 216 [.int (sb c)] h = some (some (.int (if ltr c = true then nI 1 else nI 0)), h) := by
  rw [x216, m153, cI_s]
  by_cases z : 97 ≤ c ∧ c ≤ 122
  · rw [if_pos (bI_nz.mpr ((sb_in hc (by omega) (by omega)).mpr z)), if_pos (ltr_i.mpr (Or.inl z))]
  · rw [if_neg (by rw [bI_nz, sb_in hc (by omega) (by omega)]; exact z), m153, cI_s]
    by_cases y : 65 ≤ c ∧ c ≤ 90
    · rw [if_neg (by rw [bI_0, sb_in hc (by omega) (by omega)]; exact not_not_intro y), if_pos (ltr_i.mpr (Or.inr y))]
    · rw [if_pos (by rw [bI_0, sb_in hc (by omega) (by omega)]; exact y), if_neg (by rw [ltr_i]; exact fun q => q.elim z y)]
theorem m215_0 {d : Nat} (ht : t ≤ 300) (hT : ∀ k, T k < 256) : ∀ (u p : Nat) (h : PH), p + u = t → TM h T t p → ∃ h', runL (g2 L) d 11 false none kc_215 0 [.ref 253, dm, dm, dm, dm] [] h = runL (g2 L) d 11 false none kc_215 52 [.ref 253, dm, dm, dm, dm] [] h' ∧ TM h' T t (wh T blk t p) ∧ Fx h h' := by
  intro u
  induction u with
  | zero =>
    intro p h hp hX
    rw [wh_no (by omega)]
    refine ⟨h, ?_, hX, Fx.rf⟩
    rw [e215_0, hX.2.1, hX.2.2, if_pos (by rw [nI_leN (by omega) (by omega)]; omega)]
  | succ u ih =>
    intro p h hp hX
    have t1 := hT p
    have s0 := e215_0 L d h
    rw [hX.2.1, hX.2.2, if_neg (by rw [nI_leN (by omega) (by omega)]; omega), inB_nI (by omega), asr_d (by omega), asr_d (by omega), ix_nI (by omega), hX.1 p (by omega), nI_plus] at s0
    by_cases z : blk (T p) = true
    · obtain ⟨h', r1, r2, r3⟩ := ih (p + 1) (wI h 253 39 (nI (p + 1))) (by omega) hX.at
      rw [wh_go (by omega) z]
      refine ⟨h', ?_, r2, (Fx.w (by omega)).tr r3⟩
      rw [s0]
      rcases blk_i.mp z with q | q
      · rw [if_pos ((sb_eq t1 (by omega)).mpr q)]
        exact r1
      · rw [if_neg (by rw [sb_eq t1 (by omega)]; omega), if_neg (by rw [Ne, sb_eq t1 (by omega)]; omega)]
        exact r1
    · have q : ¬ (T p = 32 ∨ T p = 10) := fun q => z (blk_i.mpr q)
      rw [wh_no (fun w => z w.2)]
      refine ⟨h, ?_, hX, Fx.rf⟩
      rw [s0, if_neg (by rw [sb_eq t1 (by omega)]; omega), if_pos (by rw [Ne, sb_eq t1 (by omega)]; omega)]
theorem hv8 {p n : Nat} (hT : ∀ k, k < n → 65 ≤ T (p + k) ∧ T (p + k) ≤ 122) : ∀ m, m ≤ n → hv T p m < 64 ^ m
  | 0, _ => Nat.one_pos
  | m + 1, hm => by
    have := hv8 hT m (by omega)
    have := hT m (by omega)
    rw [hv, Nat.pow_succ]
    omega
theorem jv_nat {a : Nat} (ha : a < 9223372036854775808) : (jv (a : Int)).toInt = a := jv_toInt (by omega) (by omega)
/-- the letters: how many, and their number up to eight -/
theorem m215_99 {d p q0 : Nat} (ht : t ≤ 300) (hT : ∀ k, T k < 256) (x1 : Int32) : ∀ (u n : Nat) (y : Int64) (h : PH), p + n + u = t → TM h T t (p + n) → (∀ k, k < n → ltr (T (p + k)) = true) → (n ≤ 8 → y = jv (hv T p n)) → ∃ h' y', runL (g2 L) (d + 2) 11 false none kc_215 99 [.ref 253, .int x1, .long y, dm, .int (nI n)] [] h = runL (g2 L) (d + 2) 11 false none kc_215 173 [.ref 253, .int x1, .long y', dm, .int (nI (wh T ltr t (p + n) - p))] [] h' ∧ (wh T ltr t (p + n) - p ≤ 8 → y' = jv (hv T p (wh T ltr t (p + n) - p))) ∧ TM h' T t (wh T ltr t (p + n)) ∧ Fx h h' ∧ (∀ k, k ≠ 39 → hI h' 253 k = hI h 253 k) := by
  intro u
  induction u with
  | zero =>
    intro n y h hn hX hl hy
    rw [wh_no (by omega), show p + n - p = n by omega]
    refine ⟨h, y, ?_, hy, hX, Fx.rf, fun _ _ => rfl⟩
    rw [e215_99, hX.2.1, hX.2.2, if_pos (by rw [nI_leN (by omega) (by omega)]; omega)]
  | succ u ih =>
    intro n y h hn hX hl hy
    have t1 := hT (p + n)
    have s0 := e215_99 L (d + 2) x1 y (nI n) h
    rw [hX.2.1, hX.2.2, if_neg (by rw [nI_leN (by omega) (by omega)]; omega), inB_nI (by omega), asr_d (by omega), ix_nI (by omega), hX.1 (p + n) (by omega), m216 d t1, cI_s] at s0
    by_cases z : ltr (T (p + n)) = true
    · have hl' : ∀ k, k < n + 1 → ltr (T (p + k)) = true := fun k hk => by
        by_cases e : k = n
        · rw [e]; exact z
        · exact hl k (by omega)
      rw [if_pos z, if_neg (by decide), hX.2.2, nI_plus, nI_plus, Nat.add_assoc p n 1] at s0
      rw [wh_go (by omega) z, Nat.add_assoc p n 1]
      by_cases n8 : 8 ≤ n
      · rw [if_pos (by rw [nI_leN (by omega) (by omega)]; omega)] at s0
        obtain ⟨h', y', r1, r2, r3, r4, r5⟩ := ih (n + 1) y (wI h 253 39 (nI (p + (n + 1)))) (by omega) hX.at hl' (fun q => by omega)
        exact ⟨h', y', s0.trans r1, r2, r3, (Fx.w (by omega)).tr r4, fun k hk => by rw [r5 k hk, hI_wI, if_neg (fun q => hk q.2)]⟩
      · have zz : 65 ≤ T (p + n) ∧ T (p + n) ≤ 122 := by
          rcases ltr_i.mp z with q | q <;> omega
        have b7 := hv8 (T := T) (p := p) (n := n) (fun k hk => by rcases ltr_i.mp (hl k hk) with q | q <;> omega) n (Nat.le_refl _)
        have b8 : (64 : Nat) ^ n ≤ 64 ^ 7 := Nat.pow_le_pow_right (by decide) (by omega)
        have b9 : (64 : Nat) ^ 7 = 4398046511104 := by decide
        have e1 : ((64 : Int64) * y + (sb (T (p + n))).toInt64) - 64 = jv (hv T p (n + 1)) := by
          apply jv_eq
          have a1 : (64 : Int64).toInt = 64 := by decide
          have a2 : y.toInt = hv T p n := by rw [hy (by omega), jv_nat (by omega)]
          have a3 : (sb (T (p + n))).toInt64.toInt = T (p + n) := by rw [sb_lo _ (by omega), nI64 (by omega), jv_nat (by omega)]
          have a4 : ((64 : Int64) * y).toInt = 64 * hv T p n := by rw [Jvm.Kit.i64_mul (by rw [a1, a2]; omega) (by rw [a1, a2]; omega), a1, a2]
          have a5 : ((64 : Int64) * y + (sb (T (p + n))).toInt64).toInt = 64 * hv T p n + T (p + n) := by rw [Jvm.Kit.i64_add (by rw [a4, a3]; omega) (by rw [a4, a3]; omega), a4, a3]
          rw [Jvm.Kit.i64_sub (by rw [a5, a1]; omega) (by rw [a5, a1]; omega), a5, a1, hv]
          omega
        rw [if_neg (by rw [nI_leN (by omega) (by omega)]; omega), inB_nI (by omega), asr_d (by omega), ix_nI (by omega), hX.1 (p + n) (by omega), e1] at s0
        obtain ⟨h', y', r1, r2, r3, r4, r5⟩ := ih (n + 1) (jv (hv T p (n + 1))) (wI h 253 39 (nI (p + (n + 1)))) (by omega) hX.at hl' (fun _ => rfl)
        exact ⟨h', y', s0.trans r1, r2, r3, (Fx.w (by omega)).tr r4, fun k hk => by rw [r5 k hk, hI_wI, if_neg (fun q => hk q.2)]⟩
    · rw [if_neg z, if_pos rfl] at s0
      rw [wh_no (fun w => z w.2), show p + n - p = n by omega]
      exact ⟨h, y, s0, hy, hX, Fx.rf, fun _ _ => rfl⟩
theorem m217 (d : Nat) {x n : Nat} (hx : x < 4398046511104) (hn : n ≤ 7) (h : PH) : ∃ r, exec (g2 L) (d + 1) 217 [.long (jv (x : Int))] h = some (some (.int r), h) ∧ ((wkv x n = 1 ∧ r = m1) ∨ (∃ j, j ≤ 10 ∧ r = nI j ∧ ((wkv x n = j + 3 ∧ j ≤ 2) ∨ (wkv x n = j + 6 ∧ 3 ≤ j)))) := by
  have nq : ∀ c : Nat, c < 9223372036854775808 → ∀ w : Int64, w = jv (c : Int) → ((lg_cmp (jv (x : Int)) w ≠ nI 0) ↔ x ≠ c) := by
    intro c hc w hw
    rw [nI0, Ne, lg_cmp_eq, hw, ← Int64.toInt_inj, jv_nat (by omega), jv_nat hc]
    omega
  unfold wkv
  rw [x217, if_neg (show ¬ 7 < n by omega)]
  by_cases c0 : x = 13278119
  · rw [if_neg (show ¬ (lg_cmp (jv (x : Int)) 13278119 ≠ nI 0) from fun q => (nq 13278119 (by omega) 13278119 (by decide)).mp q c0), if_pos c0]
    exact ⟨nI 0, rfl, Or.inr ⟨0, by omega, rfl, by omega⟩⟩
  rw [if_pos ((nq 13278119 (by omega) 13278119 (by decide)).mpr c0), if_neg c0]
  by_cases c1 : x = 13262068
  · rw [if_neg (show ¬ (lg_cmp (jv (x : Int)) 13262068 ≠ nI 0) from fun q => (nq 13262068 (by omega) 13262068 (by decide)).mp q c1), if_pos c1]
    exact ⟨nI 1, rfl, Or.inr ⟨1, by omega, rfl, by omega⟩⟩
  rw [if_pos ((nq 13262068 (by omega) 13262068 (by decide)).mpr c1), if_neg c1]
  by_cases c2 : x = 14584174
  · rw [if_neg (show ¬ (lg_cmp (jv (x : Int)) 14584174 ≠ nI 0) from fun q => (nq 14584174 (by omega) 14584174 (by decide)).mp q c2), if_pos c2]
    exact ⟨nI 2, rfl, Or.inr ⟨2, by omega, rfl, by omega⟩⟩
  rw [if_pos ((nq 14584174 (by omega) 14584174 (by decide)).mpr c2), if_neg c2]
  by_cases c3 : x = 3058
  · rw [if_neg (show ¬ (lg_cmp (jv (x : Int)) 3058 ≠ nI 0) from fun q => (nq 3058 (by omega) 3058 (by decide)).mp q c3), if_pos c3]
    exact ⟨nI 3, rfl, Or.inr ⟨3, by omega, rfl, by omega⟩⟩
  rw [if_pos ((nq 3058 (by omega) 3058 (by decide)).mpr c3), if_neg c3]
  by_cases c4 : x = 138148
  · rw [if_neg (show ¬ (lg_cmp (jv (x : Int)) 138148 ≠ nI 0) from fun q => (nq 138148 (by omega) 138148 (by decide)).mp q c4), if_pos c4]
    exact ⟨nI 4, rfl, Or.inr ⟨4, by omega, rfl, by omega⟩⟩
  rw [if_pos ((nq 138148 (by omega) 138148 (by decide)).mpr c4), if_neg c4]
  by_cases c5 : x = 191476
  · rw [if_neg (show ¬ (lg_cmp (jv (x : Int)) 191476 ≠ nI 0) from fun q => (nq 191476 (by omega) 191476 (by decide)).mp q c5), if_pos c5]
    exact ⟨nI 5, rfl, Or.inr ⟨5, by omega, rfl, by omega⟩⟩
  rw [if_pos ((nq 191476 (by omega) 191476 (by decide)).mpr c5), if_neg c5]
  by_cases c6 : x = 49018527013
  · rw [if_neg (show ¬ (lg_cmp (jv (x : Int)) 49018527013 ≠ nI 0) from fun q => (nq 49018527013 (by omega) 49018527013 (by decide)).mp q c6), if_pos c6]
    exact ⟨nI 6, rfl, Or.inr ⟨6, by omega, rfl, by omega⟩⟩
  rw [if_pos ((nq 49018527013 (by omega) 49018527013 (by decide)).mpr c6), if_neg c6]
  by_cases c7 : x = 10681714
  · rw [if_neg (show ¬ (lg_cmp (jv (x : Int)) 10681714 ≠ nI 0) from fun q => (nq 10681714 (by omega) 10681714 (by decide)).mp q c7), if_pos c7]
    exact ⟨nI 7, rfl, Or.inr ⟨7, by omega, rfl, by omega⟩⟩
  rw [if_pos ((nq 10681714 (by omega) 10681714 (by decide)).mpr c7), if_neg c7]
  by_cases c8 : x = 598931691
  · rw [if_neg (show ¬ (lg_cmp (jv (x : Int)) 598931691 ≠ nI 0) from fun q => (nq 598931691 (by omega) 598931691 (by decide)).mp q c8), if_pos c8]
    exact ⟨nI 8, rfl, Or.inr ⟨8, by omega, rfl, by omega⟩⟩
  rw [if_pos ((nq 598931691 (by omega) 598931691 (by decide)).mpr c8), if_neg c8]
  by_cases c9 : x = 149625
  · rw [if_neg (show ¬ (lg_cmp (jv (x : Int)) 149625 ≠ nI 0) from fun q => (nq 149625 (by omega) 149625 (by decide)).mp q c9), if_pos c9]
    exact ⟨nI 9, rfl, Or.inr ⟨9, by omega, rfl, by omega⟩⟩
  rw [if_pos ((nq 149625 (by omega) 149625 (by decide)).mpr c9), if_neg c9]
  by_cases c10 : x = 9575717
  · rw [if_neg (show ¬ (lg_cmp (jv (x : Int)) 9575717 ≠ nI 0) from fun q => (nq 9575717 (by omega) 9575717 (by decide)).mp q c10), if_pos c10]
    exact ⟨nI 10, rfl, Or.inr ⟨10, by omega, rfl, by omega⟩⟩
  rw [if_pos ((nq 9575717 (by omega) 9575717 (by decide)).mpr c10), if_neg c10]
  exact ⟨m1, rfl, Or.inl ⟨rfl, rfl⟩⟩
theorem m215_232 {d p : Nat} (ht : t ≤ 300) (hT : ∀ k, T k < 256) (x1 : Int32) : ∀ (u n : Nat) (h : PH), p + n + u = t → TM h T t (p + n) → hI h 253 42 = nI (nvM T p n) → ∃ h', runL (g2 L) (d + 1) 11 false none kc_215 232 [.ref 253, .int x1, dm, dm, dm] [] h = some (none, h') ∧ TM h' T t (wh T dgt t (p + n)) ∧ hI h' 253 42 = nI (nvM T p (wh T dgt t (p + n) - p)) ∧ hI h' 253 41 = hI h 253 41 ∧ hI h' 253 40 = hI h 253 40 ∧ Fx h h' := by
  intro u
  induction u with
  | zero =>
    intro n h hn hX h2
    rw [wh_no (by omega), show p + n - p = n by omega]
    refine ⟨h, ?_, hX, h2, rfl, rfl, Fx.rf⟩
    rw [e215_232, hX.2.1, hX.2.2, if_pos (by rw [nI_leN (by omega) (by omega)]; omega)]
  | succ u ih =>
    intro n h hn hX h2
    have t1 := hT (p + n)
    have v1 := nvM_le hT (p := p) n
    have s0 := e215_232 L (d + 1) x1 h
    rw [hX.2.1, hX.2.2, if_neg (by rw [nI_leN (by omega) (by omega)]; omega), inB_nI (by omega), asr_d (by omega), ix_nI (by omega), hX.1 (p + n) (by omega), m153, cI_s] at s0
    by_cases z : dgt (T (p + n)) = true
    · have zd := dgt_i.mp z
      rw [if_neg (by rw [bI_0, sb_in t1 (by omega) (by omega)]; exact not_not_intro zd), h2, hX.2.2, nI_plus, inB_nI (by omega), asr_d (by omega), ix_nI (by omega), hX.1 (p + n) (by omega), sb_lo _ (by omega), nI_times, nI_plus, nI_minus (by omega), Nat.add_assoc p n 1] at s0
      have e1 : (runL (g2 L) (d + 1) 11 false none kc_215 232 [.ref 253, .int x1, dm, dm, dm] [] h) = runL (g2 L) (d + 1) 11 false none kc_215 232 [.ref 253, .int x1, dm, dm, dm] [] (wI (wI h 253 42 (nI (nvM T p (n + 1)))) 253 39 (nI (p + (n + 1)))) := by
        rw [s0, nvM]
        by_cases q : nvM T p n ≤ 99999
        · rw [if_pos (by rw [nI_leN (by omega) (by omega)]; exact q), if_pos q]
        · rw [if_neg (by rw [nI_leN (by omega) (by omega)]; exact q), if_neg q]
      have F : Fx h (wI (wI h 253 42 (nI (nvM T p (n + 1)))) 253 39 (nI (p + (n + 1)))) := (Fx.w (by omega)).tr (Fx.w (by omega))
      obtain ⟨h', r1, r2, r3, r4, r5, r6⟩ := ih (n + 1) (wI (wI h 253 42 (nI (nvM T p (n + 1)))) 253 39 (nI (p + (n + 1)))) (by omega) (hX.fx F (by rw [hI_wI, if_pos ⟨rfl, rfl⟩])) (by rw [hI_wI, if_neg (by omega), hI_wI, if_pos ⟨rfl, rfl⟩])
      rw [wh_go (by omega) z, Nat.add_assoc p n 1]
      refine ⟨h', e1.trans r1, r2, r3, ?_, ?_, F.tr r6⟩
      · rw [r4, hI_wI, if_neg (by omega), hI_wI, if_neg (by omega)]
      · rw [r5, hI_wI, if_neg (by omega), hI_wI, if_neg (by omega)]
    · rw [if_pos (by rw [bI_0, sb_in t1 (by omega) (by omega)]; exact fun q => z (dgt_i.mpr q))] at s0
      rw [wh_no (fun w => z w.2), show p + n - p = n by omega]
      exact ⟨h, s0, hX, h2, rfl, rfl, Fx.rf⟩
end Snext

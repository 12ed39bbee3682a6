-- PART: explaining, descend (class).
def rs (w : Nat) : Nat := w - (w &&& 2 * w)
def rN (w : Nat) : Nat := pc (rs w)
theorem run_all : ∀ w, w < 1024 → nI w &&& ((nI w <<< (nI 1 &&& nI 31)) ^^^ m1) = nI (rs w) ∧ rs w < 1024 := by decide +kernel
theorem rN_pre : ∀ M, M < 1024 → ∀ p, p < 10 → rN (M % 2 ^ (p + 1)) ≤ rN M := by decide +kernel
theorem bit_mod {M p k : Nat} (hk : k < p) : M % 2 ^ p / 2 ^ k % 2 = M / 2 ^ k % 2 := by
  have e := Nat.testBit_mod_two_pow M p k
  rw [decide_eq_true hk, Bool.true_and, Nat.testBit_eq_decide_div_mod_eq, Nat.testBit_eq_decide_div_mod_eq, decide_eq_decide] at e
  omega
theorem mod_succ (M p : Nat) : M % 2 ^ (p + 1) = M % 2 ^ p + 2 ^ p * (M / 2 ^ p % 2) := by
  rw [Nat.pow_succ, Nat.mod_mul]
def XN (h : PH) (D W t l s b ln : Nat) (bs : Nat → Nat) (ok : Nat → Nat → Nat → Bool) : Prop := hI h (17 + D) 0 = nI b ∧ hI h (17 + D) 1 = nI t ∧ hI h (17 + D) 3 = nI l ∧ hI h 8 0 = nI W ∧ hI h 8 1 = nI s ∧ hI h 95 11 = nI ln ∧ (∀ k, k ≤ 10 → hI h 159 k = nI (bs k)) ∧ (∀ p a j, p ≤ 10 → a ≤ 10 → j ≤ 10 → (ok p a j = true ↔ (hI h 158 p = m1 ∨ nI (bs a + j) = hI h 158 p)))
theorem XN.congr {h h' : PH} {D W t l s b ln : Nat} {bs : Nat → Nat} {ok : Nat → Nat → Nat → Bool} (hX : XN h D W t l s b ln bs ok) (e : ∀ x, (x = 17 + D ∨ x = 8 ∨ x = 95 ∨ x = 158 ∨ x = 159) → hI h' x = hI h x) : XN h' D W t l s b ln bs ok := by
  unfold XN
  rw [e (17 + D) (by omega), e 8 (by omega), e 95 (by omega), e 158 (by omega), e 159 (by omega)]
  exact hX
section Xd
variable {L : Nat} {idl : Nat → Nat → Bool} {ok : Nat → Nat → Nat → Bool}
theorem xT_z (M i : Nat) : ∀ a j, xT idl ok M i a j < 1000 → j ≤ a ∧ a ≤ i := fun a j h => ⟨(xT_in M i a j h).1, (xT_in M i a j h).2.1⟩
theorem xU_z {p : Nat} {f : Nat → Nat → Nat} {id : Nat → Bool} (hle : ∀ a j, f a j ≤ 1000) (hz : ∀ a j, f a j < 1000 → j ≤ a ∧ a ≤ p) : ∀ a j, xU f id a j < 1000 → j ≤ a ∧ a ≤ p + 1 := by
  intro a j h
  rcases (xU_min hle id a j).2.2 with y | ⟨a0, j0, h1, h2⟩
  · omega
  · have t := hz a0 j0 h1
    unfold xE at h2
    by_cases y : id a0 = true
    · rw [if_pos y] at h2
      omega
    · rw [if_neg y] at h2
      omega
theorem xT_0 {M p : Nat} (hb : M / 2 ^ p % 2 = 0) : xT idl ok M (p + 1) = fo (xU (xT idl ok M p) (fun a => idl a (p + 1))) (ok (p + 1)) := by
  funext a j
  unfold fo
  rw [xT, hb]
  rfl
theorem xT_1 {M p : Nat} (hb : M / 2 ^ p % 2 = 1) : xT idl ok M (p + 1) = fo (xT idl ok M p) (ok (p + 1)) := by
  funext a j
  unfold fo
  rw [xT, hb, if_pos rfl]
theorem lo_bits {M p mk : Nat} (h : M % 2 ^ p = mk) : xT idl ok M p = xT idl ok mk p := xT_congr p (fun k hk => by rw [← h, bit_mod hk])
theorem add_bits {p mk k : Nat} (hm : mk < 2 ^ p) (hk : k < p) : (2 ^ p + mk) / 2 ^ k % 2 = mk / 2 ^ k % 2 := by
  have := bit_mod (M := 2 ^ p + mk) hk
  rw [Nat.add_mod_left, Nat.mod_eq_of_lt hm] at this
  exact this.symm
theorem cpyOk_rows {p : Nat} (hp : p ≤ 9) (g : PH) : cpyOk (g2 L) g (147 + p) (nI 0) (147 + (p + 1)) (nI 0) (nI 121) = true := by
  have k1 := kk11 (i := p) (by omega)
  have k2 := kk11 (i := p + 1) (by omega)
  unfold cpyOk
  rw [okW_of k1.1 (by omega) (by omega), okW_of k2.1 (by omega) (by omega), lenA_of (by omega), lenA_of (by omega), k1.2, k2.2, ix_nI (by omega), ix_nI (by omega)]
  have : Nat.beq (147 + p) (147 + (p + 1)) = false := by
    cases e : Nat.beq (147 + p) (147 + (p + 1))
    · rfl
    · exact absurd (Nat.eq_of_beq_eq_true e) (by omega)
  rw [this]
  rfl
theorem m59 {d D W t l s b ln : Nat} {bs : Nat → Nat} (hD : D < 16) (hb : b < 8) (hW : W ≤ 10) (hln : ln ≤ W) (ht : t ≤ 1) (hl : l ≤ 1) (hs : s ≤ 1) (hn : ∀ i, ln ≤ i → ∀ a j, ok (i + 1) a j = true) : ∀ (n p mk v : Nat) (h : PH), p + n = 10 → p ≤ W → mk < 2 ^ p → XN h D W t l s b ln bs ok → XR h p (xT (xI t l s) ok mk p) → xMin (xS (xT (xI t l s) ok mk p)) v → ∃ h', exec (g2 L) (d + n + 4) 59 [.ref 95, .ref (17 + D), .int (nI p), .int (nI mk), .int (nI v)] h = some (none, h') ∧ (∀ M, M < 2 ^ W → (M % 2 ^ p ≠ mk → hI h' (129 + b) M = hI h (129 + b) M) ∧ (M % 2 ^ p = mk → rN M ≤ 2 → hI h' (129 + b) M = hI h (129 + b) M + nI (xD (xI t l s) ok W M))) ∧ (∀ x, x ≠ 129 + b → ¬ (147 + p < x ∧ x ≤ 157) → hI h' x = hI h x) ∧ hR h' = hR h := by
  have lW : 2 ^ W ≤ 1024 := show 2 ^ W ≤ 2 ^ 10 from Nat.pow_le_pow_right (show 0 < 2 by decide) hW
  have leaf : ∀ (e p mk v : Nat) (h : PH), p ≤ W → mk < 2 ^ p → XN h D W t l s b ln bs ok → xMin (xS (xT (xI t l s) ok mk p)) v → (v = 1000 ∨ ln ≤ p) → ∃ h', asr (okA (g2 L) h (17 + D) 24) (asr (inB (hI h (17 + D) 0) 8) (cV (exec (g2 L) (e + 1) 60 [.ref 95, .ref (129 + ix (hI h (17 + D) 0)), .int (nI p), .int (nI mk), .int (nI v)] h) fun h1 => some (none, h1))) = some (none, h') ∧ (∀ M, M < 2 ^ W → (M % 2 ^ p ≠ mk → hI h' (129 + b) M = hI h (129 + b) M) ∧ (M % 2 ^ p = mk → rN M ≤ 2 → hI h' (129 + b) M = hI h (129 + b) M + nI (xD (xI t l s) ok W M))) ∧ (∀ x, x ≠ 129 + b → ¬ (147 + p < x ∧ x ≤ 157) → hI h' x = hI h x) ∧ hR h' = hR h := by
    intro e p mk v h hp hm hX hv ho
    obtain ⟨x1, x2, x3, x4, x5, x6, x7, x8⟩ := id hX
    obtain ⟨h', e1, e2, e3, e4⟩ := m60 (L := L) e (h := h) hb hW hp hm hv.1 x4
    refine ⟨h', ?_, fun M hM => ⟨fun q => ?_, fun q _ => ?_⟩, fun x q _ => e3 x q, e4⟩
    · rw [okA_of (kk16 hD).2.1 (by omega), asr_true, x1, inB_nI (by omega), asr_d (by omega), ix_nI (by omega), e1, cV_s]
    · rw [e2 M (by omega), if_neg (fun z => q z.2)]
    · rw [e2 M (by omega), if_pos ⟨hM, q⟩]
      congr 2
      refine xD_of hW hp (by rw [lo_bits q]; exact hv) (ho.elim Or.inl (fun z => Or.inr (fun i hi => hn i (by omega))))
  intro n
  induction n with
  | zero =>
    intro p mk v h hp hpW hm hX hF hv
    obtain ⟨h', e1, e2⟩ := leaf (d + 2) p mk v h hpW hm hX hv (Or.inr (by omega))
    refine ⟨h', ?_, e2⟩
    rw [x59, hX.2.2.2.2.2.1, if_pos (by rw [nI_leN (by omega) (by omega)]; omega)]
    exact e1
  | succ n ih =>
    intro p mk v h hp hpW hm hX hF hv
    have vle := hv.1
    have s0 := x59 L (d + n + 4) (17 + D) (nI p) (nI mk) (nI v) h
    rw [hX.2.2.2.2.2.1] at s0
    by_cases q : ln ≤ p
    · obtain ⟨h', e1, e2⟩ := leaf (d + n + 3) p mk v h hpW hm hX hv (Or.inr q)
      rw [if_pos (by rw [nI_leN (by omega) (by omega)]; exact q)] at s0
      exact ⟨h', s0.trans e1, e2⟩
    · rw [if_neg (by rw [nI_leN (by omega) (by omega)]; exact q), if_neg (by rw [nI_leN (by omega) (by omega)]; omega)] at s0
      by_cases z : v < 1000
      · rw [if_pos (by rw [nI_ltN (by omega) (by omega)]; exact z)] at s0
        have pm := Nat.pow_lt_pow_right (show 1 < 2 by decide) (show p < p + 1 by omega)
        have pe : 2 ^ (p + 1) = 2 ^ p * 2 := Nat.pow_succ 2 p
        have p10 : 2 ^ (p + 1) ≤ 1024 := show 2 ^ (p + 1) ≤ 2 ^ 10 from Nat.pow_le_pow_right (show 0 < 2 by decide) (by omega)
        obtain ⟨x1, x2, x3, x4, x5, x6, x7, x8⟩ := id hX
        -- it comes
        obtain ⟨h3, a1, a2, a3, a4⟩ := m61 (L := L) (d + n + 1) (h := h) (p := p) (by omega) hD (xT_le mk p) (xT_z mk p) ht hl hs x2 x3 x5 hF
        rw [nI_plus, a1, cV_s] at s0
        have X3 : XN h3 D W t l s b ln bs ok := hX.congr (fun x hx => a3 x (by omega))
        obtain ⟨h4, r5, c1, c2, c3, c4, c5⟩ := m58 (L := L) (d + n + 3) (p := p + 1) (h := h3) (ok := ok (p + 1)) (bs := bs) (by omega) (xU_le (xT_le mk p) _) (xU_z (xT_le mk p) (xT_z mk p)) (fun a j ha hj => X3.2.2.2.2.2.2.2 (p + 1) a j (by omega) ha hj) X3.2.2.2.2.2.2.1 a2
        rw [c1, cI_s] at s0
        have X4 : XN h4 D W t l s b ln bs ok := X3.congr (fun x hx => c4 x (by omega))
        have b0' : mk / 2 ^ p % 2 = 0 := by rw [Nat.div_eq_of_lt hm]
        have t4 := xT_0 (idl := xI t l s) (ok := ok) b0'
        have F4 : XR h4 (p + 1) (xT (xI t l s) ok mk (p + 1)) := by
          rw [t4]
          exact c2
        obtain ⟨h6, i1, i2, i3, i4⟩ := ih (p + 1) mk r5 h4 (by omega) (by omega) (by omega) X4 F4 (by rw [t4]; exact c3)
        rw [i1, cV_s, nI_shl 1 (by omega), nI_or, or_pow 1 hm, Nat.one_mul, (run_all _ (by omega)).1, m64 (L := L) (d + n + 3) (run_all _ (by omega)).2, cI_s] at s0
        have X6 : XN h6 D W t l s b ln bs ok := X4.congr (fun x hx => i3 x (by omega) (by omega))
        have c64 : rN (2 ^ p + mk) = pc (rs (2 ^ p + mk)) := rfl
        have pcle : pc (rs (2 ^ p + mk)) ≤ 10 := by
          unfold pc
          omega
        -- what it means for M
        have half : ∀ M, M % 2 ^ p = mk → (M / 2 ^ p % 2 = 0 ∧ M % 2 ^ (p + 1) = mk) ∨ (M / 2 ^ p % 2 = 1 ∧ M % 2 ^ (p + 1) = 2 ^ p + mk) := by
          intro M hM
          have e := mod_succ M p
          rw [hM] at e
          rcases Nat.mod_two_eq_zero_or_one (M / 2 ^ p) with y | y
          · rw [y, Nat.mul_zero, Nat.add_zero] at e
            exact Or.inl ⟨y, e⟩
          · rw [y, Nat.mul_one] at e
            exact Or.inr ⟨y, by omega⟩
        have othr : ∀ M, M % 2 ^ p ≠ mk → M % 2 ^ (p + 1) ≠ mk ∧ M % 2 ^ (p + 1) ≠ 2 ^ p + mk := by
          intro M hM
          have e := mod_succ M p
          have l1 := Nat.mod_lt M (Nat.pow_pos (show 0 < 2 by decide) : 0 < 2 ^ p)
          rcases Nat.mod_two_eq_zero_or_one (M / 2 ^ p) with y | y
          · rw [y, Nat.mul_zero, Nat.add_zero] at e
            omega
          · rw [y, Nat.mul_one] at e
            omega
        have keep : ∀ x, x ≠ 129 + b → ¬ (147 + p < x ∧ x ≤ 157) → hI h6 x = hI h x := by
          intro x q1 q2
          rw [i3 x q1 (by omega), c4 x (by omega), a3 x (by omega)]
        have row6 : hI h4 (129 + b) = hI h (129 + b) := by rw [c4 _ (by omega), a3 _ (by omega)]
        by_cases y : 2 < pc (rs (2 ^ p + mk))
        · rw [if_pos (by rw [nI_ltN (by omega) (by omega)]; exact y)] at s0
          refine ⟨h6, s0, fun M hM => ⟨fun w => ?_, fun w w2 => ?_⟩, keep, i4.trans (c5.trans a4)⟩
          · rw [(i2 M hM).1 (othr M w).1, row6]
          · rcases half M w with ⟨w3, w4⟩ | ⟨w3, w4⟩
            · rw [(i2 M hM).2 w4 w2, row6]
            · have := rN_pre M (by omega) p (by omega)
              rw [w4] at this
              omega
        · rw [if_neg (by rw [nI_ltN (by omega) (by omega)]; exact y), inB_nI (by omega), asr_d (by omega), inB_nI (by omega), asr_d (by omega), ix_nI (by omega), ix_nI (by omega), cpyOk_rows (by omega), asr_true] at s0
          have X7 : XN (cpy h6 (147 + p) 0 (147 + (p + 1)) 0 121) D W t l s b ln bs ok := X6.congr (fun x hx => cpy_ne (by omega))
          have same : xT (xI t l s) ok (2 ^ p + mk) p = xT (xI t l s) ok mk p := xT_congr p (fun k hk => add_bits hm hk)
          have F7 : XR (cpy h6 (147 + p) 0 (147 + (p + 1)) 0 121) (p + 1) (xT (xI t l s) ok (2 ^ p + mk) p) := by
            intro a j ha hj
            rw [hI_cpy, if_pos ⟨rfl, by omega, by omega⟩, keep _ (by omega) (by omega), same, Nat.sub_zero, Nat.zero_add]
            exact hF a j ha hj
          obtain ⟨h9, r10, g1, g2', g3, g4, g5⟩ := m58 (L := L) (d + n + 3) (p := p + 1) (h := cpy h6 (147 + p) 0 (147 + (p + 1)) 0 121) (ok := ok (p + 1)) (bs := bs) (by omega) (xT_le (2 ^ p + mk) p) (fun a j hq => by have := xT_z (2 ^ p + mk) p a j hq; omega) (fun a j ha hj => X7.2.2.2.2.2.2.2 (p + 1) a j (by omega) ha hj) X7.2.2.2.2.2.2.1 F7
          rw [g1, cI_s] at s0
          have X9 : XN h9 D W t l s b ln bs ok := X7.congr (fun x hx => g4 x (by omega))
          have b1' : (2 ^ p + mk) / 2 ^ p % 2 = 1 := by
            rw [Nat.add_div_left _ (Nat.pow_pos (by decide)), Nat.div_eq_of_lt hm]
          have t9 := xT_1 (idl := xI t l s) (ok := ok) b1'
          have F9 : XR h9 (p + 1) (xT (xI t l s) ok (2 ^ p + mk) (p + 1)) := by
            rw [t9]
            exact g2'
          obtain ⟨h11, j1, j2, j3, j4⟩ := ih (p + 1) (2 ^ p + mk) r10 h9 (by omega) (by omega) (by omega) X9 F9 (by rw [t9]; exact g3)
          rw [j1, cV_s] at s0
          have row9 : hI h9 (129 + b) = hI h6 (129 + b) := by rw [g4 _ (by omega), cpy_ne (by omega)]
          refine ⟨h11, s0, fun M hM => ⟨fun w => ?_, fun w w2 => ?_⟩, fun x q1 q2 => ?_, ?_⟩
          · rw [(j2 M hM).1 (othr M w).2, row9, (i2 M hM).1 (othr M w).1, row6]
          · rcases half M w with ⟨w3, w4⟩ | ⟨w3, w4⟩
            · rw [(j2 M hM).1 (by have := Nat.pow_pos (n := p) (show 0 < 2 by decide); omega), row9, (i2 M hM).2 w4 w2, row6]
            · rw [(j2 M hM).2 w4 w2, row9, (i2 M hM).1 (by have := Nat.pow_pos (n := p) (show 0 < 2 by decide); omega), row6]
          · rw [j3 x q1 (by omega), g4 x (by omega), cpy_ne (by omega)]
            exact keep x q1 q2
          · rw [j4, g5]
            exact i4.trans (c5.trans a4)
      · obtain ⟨h', e1, e2⟩ := leaf (d + n + 3) p mk v h hpW hm hX hv (Or.inl (by omega))
        rw [if_neg (by rw [nI_ltN (by omega) (by omega)]; exact z)] at s0
        exact ⟨h', s0.trans e1, e2⟩
end Xd

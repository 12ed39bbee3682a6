-- PART: a dial takes pulses, on both sides.
theorem asr_tt (x : PR) : asr (true && true) x = x := rfl
theorem xor2 {s m : Nat} (hs : s ≤ 1) : s ^^^ (m &&& 1) = (s + m) % 2 := by
  rw [Nat.and_one_is_mod]
  have h1 : m % 2 = 0 ∨ m % 2 = 1 := by omega
  have h2 : s = 0 ∨ s = 1 := by omega
  rcases h1 with q | q <;> rcases h2 with z | z <;> rw [q, z] <;> simp <;> omega
/-- how many of n pulses do something, the first one's sign is s -/
def tk (t l s n : Nat) : Nat := if t = 1 ∧ l = s then n - 1 else n
theorem tk_le (t l s n : Nat) : tk t l s n ≤ n := by
  unfold tk
  split <;> omega
section Take
variable {L : Nat} {h : PH}
theorem m31_held (d : Nat) {a b t hd l c sk bo hl : Nat} (hD : DH h a b t hd l c sk bo hl) (hk : kx_K a = 24) (ha : a < 289) (h0 : hl ≠ 0) (h1 : hl ≤ 1) (x y : Int32) : exec (g2 L) (d + 1) 31 [.ref a, .int x, .int y] h = some (some (.int (nI 0)), h) := by
  rw [x31, okA_of hk ha, asr_true, hD.2.2.2.2.2.2.2, if_pos (by rw [Ne, nI_eqI (by omega) (by omega)]; exact h0)]
theorem m31 (d : Nat) {a b t hd l c sk bo : Nat} (hD : DH h a b t hd l c sk bo 0) (hk : kx_K a = 24) (ha2 : 2 ≤ a) (ha : a < 289) (ht : t ≤ 1) (hhd : hd < 720) (hl : l ≤ 1) (hc : c ≤ 100000000) (h1 : sk ≤ 999) (h2 : bo ≤ 999) {s n : Nat} (hs : s ≤ 1) (hn1 : 1 ≤ n) (hn : n ≤ 20000) : exec (g2 L) (d + 3) 31 [.ref a, .int (nI s), .int (nI n)] h = some (some (.int (nI (tk t l s n))), wI (wI (wI h a 2 (nI ((hd + far sk bo c (tk t l s n)) % 720))) a 5 (nI (c + tk t l s n))) a 3 (nI ((s + (n - 1)) % 2))) := by
  obtain ⟨f0, f1, f2, f3, f5, f6, f7, f4⟩ := id hD
  have core : ∀ q, q ≤ 20000 → runL (g2 L) (d + 2) 4 false (some .int) kc_31 36 [.ref a, .int (nI s), .int (nI n), dm] [.int (nI q)] h = some (some (.int (nI q)), wI (wI (wI h a 2 (nI ((hd + far sk bo c q) % 720))) a 5 (nI (c + q))) a 3 (nI ((s + (n - 1)) % 2))) := by
    intro q hq
    have hf := far_le sk bo c q
    rw [e31_36, okA_of hk ha, asr_true, asr_true, m32 d hD hk ha h1 h2 hc hq, cI_s, okW_of hk ha2 ha, asr_tt, okA_of hk ha, asr_true, asr_tt, asr_tt, f2, nI_plus, nI_rest (by omega) (by omega), hI_wI, if_neg (fun z => absurd z.2 (by decide)), f5, nI_plus, nI_minus hn1, nI_and, nI_xor, xor2 hs]
  rw [x31, okA_of hk ha, asr_true, f4, if_neg (fun q => q rfl), if_pos (by rw [nI_leN (by omega) (by omega)]; exact hn1), asr_true, f1, asr_true, f3]
  unfold tk
  by_cases z1 : t = 1
  · rw [if_neg (by rw [nI_eqI (by omega) (by omega)]; omega)]
    by_cases z2 : l = s
    · rw [if_neg (by rw [z2]; exact fun q => q rfl), if_pos ⟨z1, z2⟩, nI_minus hn1]
      exact core _ (by omega)
    · rw [if_pos (by rw [Ne, nI_eqI (by omega) (by omega)]; exact z2), if_neg (fun q => z2 q.2)]
      exact core _ hn
  · rw [if_pos (by rw [nI_eqI (by omega) (by omega)]; omega), if_neg (fun q => z1 q.1)]
    exact core _ hn
-- the reference
theorem m170 (d : Nat) {sk bo k : Nat} (f1 : hI h 253 12 = nI sk) (f2 : hI h 253 13 = nI bo) (h1 : sk ≤ 999) (h2 : bo ≤ 999) (hk : k < 2147483648) : exec (g2 L) (d + 1) 170 [.ref 253, .int (nI k)] h = some (some (.int (nI (gn sk bo k))), h) := by
  have two : runL (g2 L) d 11 false (some .int) kc_170 20 [.ref 253, .int (nI k)] [] h = some (some (.int (nI (if bo ≠ 0 ∧ k % bo = 0 then 2 else 1))), h) := by
    rw [e170_20, f2]
    by_cases z2 : bo = 0
    · rw [if_pos (by rw [z2]), if_neg (fun q => q.1 z2)]
    · have hb : ¬ nI bo = nI 0 := by rw [nI_eqI (by omega) (by omega)]; exact z2
      have := Nat.mod_lt k (Nat.pos_of_ne_zero z2)
      rw [if_neg hb, if_neg hb, nI_rest (by omega) (by omega)]
      by_cases z3 : k % bo = 0
      · rw [if_neg (by rw [z3]; exact fun q => q rfl), if_pos ⟨z2, z3⟩]
      · rw [if_pos (by rw [Ne, nI_eqI (by omega) (by omega)]; exact z3), if_neg (fun q => z3 q.2)]
  rw [x170, f1, two]
  unfold gn
  by_cases z1 : sk = 0
  · rw [if_pos (by rw [z1]), if_neg (c := sk ≠ 0 ∧ k % sk = 0) (fun q => q.1 z1)]
  · have hb : ¬ nI sk = nI 0 := by rw [nI_eqI (by omega) (by omega)]; exact z1
    have := Nat.mod_lt k (Nat.pos_of_ne_zero z1)
    rw [if_neg hb, if_neg hb, nI_rest (by omega) (by omega)]
    by_cases z3 : k % sk = 0
    · rw [if_neg (by rw [z3]; exact fun q => q rfl), if_pos ⟨z1, z3⟩]
    · rw [if_pos (by rw [Ne, nI_eqI (by omega) (by omega)]; exact z3), if_neg (c := sk ≠ 0 ∧ k % sk = 0) (fun q => z3 q.2)]
/-- what the reference has taken of a dial -/
def TH (h : PH) (t hd l c sk bo : Nat) : Prop := hI h 253 11 = nI t ∧ hI h 253 12 = nI sk ∧ hI h 253 13 = nI bo ∧ hI h 253 14 = nI hd ∧ hI h 253 15 = nI l ∧ hI h 253 16 = nI c
/-- the dial, behind one pulse -/
def pl1 (t sk bo s hd l c : Nat) : Nat × Nat × Nat := if t = 1 ∧ l = s then (hd, l, c) else ((hd + gn sk bo (c + 1)) % 720, s, c + 1)
def hp1 (h : PH) (t sk bo s hd l c : Nat) : PH := if t = 1 ∧ l = s then h else wI (wI (wI h 253 15 (nI s)) 253 16 (nI (c + 1))) 253 14 (nI ((hd + gn sk bo (c + 1)) % 720))
theorem m169 (d : Nat) {t hd l c sk bo : Nat} (hT : TH h t hd l c sk bo) (ht : t ≤ 1) (hhd : hd < 720) (hl : l ≤ 1) (hc : c ≤ 200000000) (h1 : sk ≤ 999) (h2 : bo ≤ 999) {s : Nat} (hs : s ≤ 1) : exec (g2 L) (d + 2) 169 [.ref 253, .int (nI s)] h = some (some (.int (bI (¬ (t = 1 ∧ l = s)))), hp1 h t sk bo s hd l c) := by
  obtain ⟨f1, f2, f3, f4, f5, f6⟩ := hT
  have core : runL (g2 L) (d + 1) 11 false (some .boolean) kc_169 17 [.ref 253, .int (nI s)] [] h = some (some (.int (nI 1)), wI (wI (wI h 253 15 (nI s)) 253 16 (nI (c + 1))) 253 14 (nI ((hd + gn sk bo (c + 1)) % 720))) := by
    have hg := gn_le sk bo (c + 1)
    rw [e169_17, f6, nI_plus, m170 d (sk := sk) (bo := bo) (by rw [hI_wI, if_neg (by omega), hI_wI, if_neg (by omega)]; exact f2) (by rw [hI_wI, if_neg (by omega), hI_wI, if_neg (by omega)]; exact f3) h1 h2 (by omega), cI_s, f4, nI_plus, nI_rest (by omega) (by omega)]
  rw [x169, f1, f5, core]
  unfold hp1
  by_cases z1 : t = 1
  · rw [if_neg (by rw [nI_eqI (by omega) (by omega)]; omega)]
    by_cases z2 : l = s
    · rw [if_neg (by rw [z2]; exact fun q => q rfl), if_pos ⟨z1, z2⟩, bI_f (fun q => q ⟨z1, z2⟩)]
    · rw [if_pos (by rw [Ne, nI_eqI (by omega) (by omega)]; exact z2), if_neg (fun q => z2 q.2), bI_t (show ¬ (t = 1 ∧ l = s) from fun q => z2 q.2)]
  · rw [if_pos (by rw [nI_eqI (by omega) (by omega)]; omega), if_neg (fun q => z1 q.1), bI_t (show ¬ (t = 1 ∧ l = s) from fun q => z1 q.1)]
theorem hp1_TH {t hd l c sk bo s : Nat} (hT : TH h t hd l c sk bo) : TH (hp1 h t sk bo s hd l c) t (pl1 t sk bo s hd l c).1 (pl1 t sk bo s hd l c).2.1 (pl1 t sk bo s hd l c).2.2 sk bo := by
  obtain ⟨f1, f2, f3, f4, f5, f6⟩ := id hT
  unfold hp1 pl1
  by_cases z : t = 1 ∧ l = s
  · rw [if_pos z, if_pos z]
    exact hT
  · rw [if_neg z, if_neg z]
    refine ⟨?_, ?_, ?_, ?_, ?_, ?_⟩ <;> simp [hI_wI, f1, f2, f3]
theorem hp1_ne {t hd l c sk bo s a : Nat} (ha : a ≠ 253) : hI (hp1 h t sk bo s hd l c) a = hI h a := by
  unfold hp1
  split
  · rfl
  · rw [wI_ne ha, wI_ne ha, wI_ne ha]
theorem hp1_253 {t hd l c sk bo s k : Nat} (hk : k < 11 ∨ 16 < k) : hI (hp1 h t sk bo s hd l c) 253 k = hI h 253 k := by
  unfold hp1
  split
  · rfl
  · rw [hI_wI, if_neg (by omega), hI_wI, if_neg (by omega), hI_wI, if_neg (by omega)]
theorem hp1_JR {t hd l c sk bo s : Nat} : hJ (hp1 h t sk bo s hd l c) = hJ h ∧ hR (hp1 h t sk bo s hd l c) = hR h := by
  unfold hp1
  split <;> exact ⟨rfl, rfl⟩
end Take

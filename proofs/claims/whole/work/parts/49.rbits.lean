-- PART: rounds, small things of the class.
section Rbits
variable {L : Nat}
theorem m55_loop {d a n : Nat} (hk : kx_K a = 1) (h2 : 2 ≤ a) (hl : a < 289) (hn : kx_L a = n) (hn2 : n < 2147483648) (x : Int32) : ∀ (k i : Nat) (h : PH), i + k = n → ∃ h', runL (g2 L) d 16 false none kc_55 5 [.ref a, .int x, .int (nI i), .int (nI n)] [] h = some (none, h') ∧ (∀ j, j < n → hI h' a j = if i ≤ j then x else hI h a j) ∧ (∀ b, b ≠ a → hI h' b = hI h b) ∧ hR h' = hR h := by
  intro k
  induction k with
  | zero =>
    intro i h hi
    refine ⟨h, ?_, fun j hj => by rw [if_neg (by omega)], fun _ _ => rfl, rfl⟩
    rw [e55_5, if_pos (by rw [nI_leN (by omega) (by omega)]; omega)]
  | succ k ih =>
    intro i h hi
    obtain ⟨h', e1, e2, e3, e4⟩ := ih (i + 1) (wI h a i x) (by omega)
    refine ⟨h', ?_, fun j hj => ?_, fun b hb => by rw [e3 b hb, wI_ne hb], e4⟩
    · rw [e55_5, if_neg (by rw [nI_leN (by omega) (by omega)]; omega), okW_of hk h2 hl, asr_true, lenA_of h2, hn, inB_nI (by omega), asr_d (by omega), ix_nI (by omega), nI_plus]
      exact e1
    · rw [e2 j hj]
      by_cases z : i + 1 ≤ j
      · rw [if_pos z, if_pos (by omega)]
      · rw [if_neg z, hI_wI]
        by_cases y : j = i
        · rw [if_pos ⟨rfl, y⟩, if_pos (by omega)]
        · rw [if_neg (fun q => y q.2), if_neg (by omega)]
theorem m55 (d : Nat) {a n : Nat} {h : PH} (hk : kx_K a = 1) (h2 : 2 ≤ a) (hl : a < 289) (hn : kx_L a = n) (hn2 : n < 2147483648) (x : Int32) : ∃ h', exec (g2 L) (d + 1) 55 [.ref a, .int x] h = some (none, h') ∧ (∀ j, j < n → hI h' a j = x) ∧ (∀ b, b ≠ a → hI h' b = hI h b) ∧ hR h' = hR h := by
  obtain ⟨h', e1, e2, e3, e4⟩ := m55_loop (L := L) (d := d) hk h2 hl hn hn2 x n 0 h (by omega)
  refine ⟨h', ?_, fun j hj => by rw [e2 j hj, if_pos (Nat.zero_le _)], e3, e4⟩
  have al : alive (g2 L) h a = true := by
    unfold alive
    rw [show Nat.blt a (g2 L).1 = true from Nat.ble_eq_true_of_le hl]
    rfl
  rw [x55, hk, al, lenA_of h2, hn]
  exact e1
/-- the number of a way's lowest bit -/
def f62 (x0 x1 : Int32) : Int32 := if x0 ≤ nI 4 then x1 + ((x0.toUInt32 >>> (Int32.toUInt32 (nI 1) &&& Int32.toUInt32 (nI 31))).toInt32) else (x1 + (nI 2)) + ((((x0.toUInt32 >>> (Int32.toUInt32 (nI 2) &&& Int32.toUInt32 (nI 31))).toInt32).toUInt32 >>> (Int32.toUInt32 (nI 1) &&& Int32.toUInt32 (nI 31))).toInt32)
theorem m86_62 (d : Nat) (x0 x1 : Int32) (h : PH) : runL (g2 L) d 14 false (some .int) kc_86 62 [.int x0, .int x1] [] h = some (some (.int (f62 x0 x1)), h) := by
  rw [e86_62]
  unfold f62
  split <;> rfl
def tz8 (w : Nat) : Nat := if w % 2 = 1 then 0 else if w / 2 % 2 = 1 then 1 else if w / 4 % 2 = 1 then 2 else if w / 8 % 2 = 1 then 3 else if w / 16 % 2 = 1 then 4 else if w / 32 % 2 = 1 then 5 else if w / 64 % 2 = 1 then 6 else 7
def f86 (x : Int32) : Int32 := if x ≤ nI 16 then f62 x (nI 1) else f62 ((x.toUInt32 >>> (Int32.toUInt32 (nI 4) &&& Int32.toUInt32 (nI 31))).toInt32) (nI 1 + nI 4)
theorem f86_all : ∀ w, w < 256 → w ≠ 0 → w % 2 = 0 → (nI 0 < ((nI w ^^^ m1) &&& (nI w - nI 1)) ∧ ((nI w ^^^ m1) &&& (nI w - nI 1)) ≤ nI 65536 ∧ ((nI w ^^^ m1) &&& (nI w - nI 1)) ≤ nI 256) ∧ f86 ((nI w ^^^ m1) &&& (nI w - nI 1)) = nI (tz8 w) := by decide +kernel
theorem m86 (d : Nat) {w : Nat} (hw : w < 256) (h0 : w ≠ 0) (h1 : w % 2 = 0) (h : PH) : exec (g2 L) (d + 1) 86 [.int (nI w)] h = some (some (.int (nI (tz8 w))), h) := by
  obtain ⟨⟨a1, a2, a3⟩, a4⟩ := f86_all w hw h0 h1
  rw [x86, if_pos a1, if_pos a2, e86_34, if_pos a3, m86_62, m86_62, ← a4]
  unfold f86
  split <;> rfl
/-- a smaller way is among the ways -/
def hs (w p : Nat) : Nat → Bool
  | 0 => false
  | i + 1 => hs w p i || (decide (w / 2 ^ i % 2 = 1) && decide ((b0 i ≤ b0 p ∧ b1 i ≤ b1 p) ∧ b2 i ≤ b2 p))
end Rbits

-- PART: rounds, gather.
section Rgather
variable {L : Nat} {A : Nat → Nat}
/-- the row of dial d: by which numbers of pulses it comes right -/
def rowR (h : PH) (A : Nat → Nat) (k d n : Nat) : Prop := ∀ j, j < n → hI h (182 + k) j = nI (if far (A (40 + 8 * d + 5)) (A (40 + 8 * d + 6)) (A (40 + 8 * d + 4)) j = bh (A 0) (A (40 + 8 * d + 2)) then 1 else 0)
theorem m79_67 {d i k q : Nat} (hV : VW A q) (hq : q ≤ 100000000) (hi : i < A 4) (hk : k < 16) (x1 : Int32) : ∀ (n j : Nat) (h : PH), j + n = 91 → RC h 0 A → hI h 163 8 = nI k → rowR h A k i j → ∃ h', runL (g2 L) (d + 2) 6 false none kc_79 67 [.ref 163, .int x1, .ref (33 + i), .int (nI (bh (A 0) (A (40 + 8 * i + 2)))), .int (nI j)] [] h = runL (g2 L) (d + 2) 6 false none kc_79 7 [.ref 163, .int (x1 + nI 1), .ref (33 + i), .int (nI (bh (A 0) (A (40 + 8 * i + 2)))), .int (nI 91)] [] (wI (wR h' 198 k (33 + i)) 163 8 (nI (k + 1))) ∧ rowR h' A k i 91 ∧ (∀ a, a ≠ 182 + k → hI h' a = hI h a) ∧ hR h' = hR h := by
  obtain ⟨v1, v3, v4, vb, vk, vl⟩ := id hV
  obtain ⟨l0, l1, l2, l3, l4, l5, l6, l7⟩ := vl i hi
  intro n
  induction n with
  | zero =>
    intro j h hj hC h8 hr
    have : j = 91 := by omega
    subst this
    refine ⟨h, ?_, hr, fun _ _ => rfl, rfl⟩
    rw [e79_67, if_pos (by decide), okA_of (kk16 (show i < 16 by omega)).1 (by omega), h8, inB_nI (by omega), ix_nI (by omega), nI_plus]
    rw [show ((true || false) && true) = true from rfl, asr_true, asr_d hk]
  | succ n ih =>
    intro j h hj hC h8 hr
    have D := hC.dH (i := i) (by omega)
    rw [Nat.zero_add] at D
    have e32 := m32 (L := L) d D (kk16 (show i < 16 by omega)).1 (by omega) l5 l6 (by omega) (n := j) (by omega)
    have hfar := far_le (A (40 + 8 * i + 5)) (A (40 + 8 * i + 6)) (A (40 + 8 * i + 4)) j
    have hbh := bh_lt (A 0) (A (40 + 8 * i + 2))
    have step : ∀ v : Nat, v = (if far (A (40 + 8 * i + 5)) (A (40 + 8 * i + 6)) (A (40 + 8 * i + 4)) j = bh (A 0) (A (40 + 8 * i + 2)) then 1 else 0) → rowR (wI h (182 + k) j (nI v)) A k i (j + 1) := by
      intro v hv j' hj'
      rw [hI_wI]
      by_cases y : j' = j
      · rw [if_pos ⟨rfl, y⟩, hv, y]
      · rw [if_neg (fun q => y q.2)]
        exact hr j' (by omega)
    have go1 : ∀ v : Nat, v = (if far (A (40 + 8 * i + 5)) (A (40 + 8 * i + 6)) (A (40 + 8 * i + 4)) j = bh (A 0) (A (40 + 8 * i + 2)) then 1 else 0) → runL (g2 L) (d + 2) 6 false none kc_79 67 [.ref 163, .int x1, .ref (33 + i), .int (nI (bh (A 0) (A (40 + 8 * i + 2)))), .int (nI j)] [] h = runL (g2 L) (d + 2) 6 false none kc_79 67 [.ref 163, .int x1, .ref (33 + i), .int (nI (bh (A 0) (A (40 + 8 * i + 2)))), .int (nI (j + 1))] [] (wI h (182 + k) j (nI v)) := by
      intro v hv
      rw [e79_67, if_neg (by rw [nI_ltN (by omega) (by omega)]; omega), h8, inB_nI (by omega), asr_d hk, okA_of (kk16 (show i < 16 by omega)).1 (by omega), asr_true, e32, cI_s, ix_nI (by omega), okW_of (kk16 hk).2.2.2.2.2.2.1 (by omega) (by omega), asr_true, asr_true, lenA_of (by omega), (kk16 hk).2.2.2.2.2.2.2, inB_nI (by omega), asr_d (by omega), asr_d (by omega), ix_nI (by omega), nI_plus]
      by_cases z : far (A (40 + 8 * i + 5)) (A (40 + 8 * i + 6)) (A (40 + 8 * i + 4)) j = bh (A 0) (A (40 + 8 * i + 2))
      · rw [if_pos z] at hv
        rw [if_neg (by rw [z]; exact fun q => q rfl), hv]
      · rw [if_neg z] at hv
        rw [if_pos (by rw [Ne, nI_eqI (by omega) (by omega)]; exact z), hv]
    obtain ⟨h', a1, a2, a3, a4⟩ := ih (j + 1) (wI h (182 + k) j (nI _)) (by omega) (hC.congr (fun a p q => wI_ne (by omega))) (by rw [wI_ne (by omega)]; exact h8) (step _ rfl)
    exact ⟨h', (go1 _ rfl).trans a1, a2, fun a ha => by rw [a3 a ha, wI_ne ha], a4⟩
end Rgather

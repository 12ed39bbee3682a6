-- PART: rounds, isInReach.
section Rreach
variable {L : Nat} {A : Nat → Nat}
def rt (A : Nat → Nat) (k j : Nat) : Prop := far (A (40 + 8 * rd A k + 5)) (A (40 + 8 * rd A k + 6)) (A (40 + 8 * rd A k + 4)) j = bh (A 0) (A (40 + 8 * rd A k + 2))
theorem m80_15 {d k r : Nat} {h : PH} (hr : r ≤ 3) (hk : k < rn A) (hk16 : k < 16) (hG : GS h A) : ∀ (n j s : Nat), j + n = 30 * r + 1 → s ≤ j → (s = 0 ↔ ∀ j', j' < j → ¬ rt A k j') → ((∃ j', j' ≤ 30 * r ∧ rt A k j') ∧ ∃ v3 v4, runL (g2 L) d 6 false (some .boolean) kc_80 15 [.ref 163, .int (nI r), .int (nI k), .int (nI s), .int (nI j)] [] h = runL (g2 L) d 6 false (some .boolean) kc_80 2 [.ref 163, .int (nI r), .int (nI (k + 1)), v3, v4] [] h) ∨ ((∀ j', j' ≤ 30 * r → ¬ rt A k j') ∧ runL (g2 L) d 6 false (some .boolean) kc_80 15 [.ref 163, .int (nI r), .int (nI k), .int (nI s), .int (nI j)] [] h = some (some (.int (nI 0)), h)) := by
  intro n
  induction n with
  | zero =>
    intro j s hj hs hz
    by_cases z : s = 0
    · refine Or.inr ⟨fun j' hj' => hz.mp z j' (by omega), ?_⟩
      rw [e80_15, nI_times, if_pos (by rw [nI_ltN (by omega) (by omega)]; omega), if_neg (by rw [z]; exact fun q => q rfl)]
    · refine Or.inl ⟨?_, .int (nI s), .int (nI j), ?_⟩
      · refine Classical.byContradiction (fun q => z (hz.mpr (fun j' hj' hh => q ⟨j', by omega, hh⟩)))
      · rw [e80_15, nI_times, if_pos (by rw [nI_ltN (by omega) (by omega)]; omega), if_pos (by rw [Ne, nI_eqI (by omega) (by omega)]; exact z), nI_plus]
  | succ n ih =>
    intro j s hj hs hz
    have e := (hG.2 k hk).2 j (by omega)
    have st : ∀ v : Nat, hI h (182 + k) j = nI v → runL (g2 L) d 6 false (some .boolean) kc_80 15 [.ref 163, .int (nI r), .int (nI k), .int (nI s), .int (nI j)] [] h = runL (g2 L) d 6 false (some .boolean) kc_80 15 [.ref 163, .int (nI r), .int (nI k), .int (nI (s + v)), .int (nI (j + 1))] [] h := by
      intro v hv
      rw [e80_15, nI_times, if_neg (by rw [nI_ltN (by omega) (by omega)]; omega), inB_nI (by omega), asr_d hk16, ix_nI (by omega), okA_of (kk16 hk16).2.2.2.2.2.2.1 (by omega), asr_true, lenA_of (by omega), (kk16 hk16).2.2.2.2.2.2.2, inB_nI (by omega), asr_d (by omega), ix_nI (by omega), hv, nI_plus, nI_plus]
    by_cases z : rt A k j
    · rw [if_pos (show far (A (40 + 8 * rd A k + 5)) (A (40 + 8 * rd A k + 6)) (A (40 + 8 * rd A k + 4)) j = bh (A 0) (A (40 + 8 * rd A k + 2)) from z)] at e
      rw [st 1 e]
      exact ih (j + 1) (s + 1) (by omega) (by omega) ⟨fun q => by omega, fun q => absurd z (q j (by omega))⟩
    · rw [if_neg (show ¬ far (A (40 + 8 * rd A k + 5)) (A (40 + 8 * rd A k + 6)) (A (40 + 8 * rd A k + 4)) j = bh (A 0) (A (40 + 8 * rd A k + 2)) from z)] at e
      rw [st 0 e, Nat.add_zero]
      refine ih (j + 1) s (by omega) (by omega) ⟨fun q j' hj' => ?_, fun q => hz.mpr (fun j' hj' => q j' (by omega))⟩
      by_cases y : j' = j
      · rw [y]
        exact z
      · exact hz.mp q j' (by omega)
theorem m80 (d : Nat) {r : Nat} {h : PH} (hr : r ≤ 3) (h16 : rn A ≤ 16) (hG : GS h A) : ((∀ k, k < rn A → ∃ j, j ≤ 30 * r ∧ rt A k j) ∧ exec (g2 L) (d + 1) 80 [.ref 163, .int (nI r)] h = some (some (.int (nI 1)), h)) ∨ ((∃ k, k < rn A ∧ ∀ j, j ≤ 30 * r → ¬ rt A k j) ∧ exec (g2 L) (d + 1) 80 [.ref 163, .int (nI r)] h = some (some (.int (nI 0)), h)) := by
  have key : ∀ (n k : Nat) (v3 v4 : Value), k + n = rn A → (∀ k', k' < k → ∃ j, j ≤ 30 * r ∧ rt A k' j) → ((∀ k, k < rn A → ∃ j, j ≤ 30 * r ∧ rt A k j) ∧ runL (g2 L) d 6 false (some .boolean) kc_80 2 [.ref 163, .int (nI r), .int (nI k), v3, v4] [] h = some (some (.int (nI 1)), h)) ∨ ((∃ k, k < rn A ∧ ∀ j, j ≤ 30 * r → ¬ rt A k j) ∧ runL (g2 L) d 6 false (some .boolean) kc_80 2 [.ref 163, .int (nI r), .int (nI k), v3, v4] [] h = some (some (.int (nI 0)), h)) := by
    intro n
    induction n with
    | zero =>
      intro k v3 v4 hk hh
      refine Or.inl ⟨fun k' hk' => hh k' (by omega), ?_⟩
      rw [e80_2, hG.1, if_pos (by rw [nI_leN (by omega) (by omega)]; omega)]
    | succ n ih =>
      intro k v3 v4 hk hh
      rw [e80_2, hG.1, if_neg (by rw [nI_leN (by omega) (by omega)]; omega)]
      rcases m80_15 (L := L) (d := d) (k := k) (r := r) hr (by omega) (by omega) hG (30 * r + 1) 0 0 (by omega) (by omega) ⟨fun _ j' hj' => by omega, fun _ => rfl⟩ with ⟨a1, u3, u4, a2⟩ | ⟨a1, a2⟩
      · rw [a2]
        exact ih (k + 1) u3 u4 (by omega) (fun k' hk' => by
          by_cases y : k' = k
          · rw [y]
            exact a1
          · exact hh k' (by omega))
      · exact Or.inr ⟨⟨k, by omega, a1⟩, a2⟩
  rw [x80]
  exact key (rn A) 0 dm dm (by omega) (fun k' hk' => by omega)
end Rreach

-- PART: rounds, force.
section Rforce
variable {L : Nat}
theorem m87_loop {d p H : Nat} {f : Nat → Nat} (hp : p < 8) (hH : H ≤ 15) (hf : ∀ j, j < 3 → f j ≤ 15) : ∀ (n i : Nat) (h : PH), i + n = 3 → (∀ j, j < 3 → hI h 200 j = nI (f j + if j < i then p / 2 ^ j % 2 else 0)) → (∀ j, j < i → f j + p / 2 ^ j % 2 ≤ H) → ∃ v h', runL (g2 L) d 6 false (some .boolean) kc_87 2 [.ref 163, .int (nI p), .int (nI H), .int (nI i)] [] h = some (some (.int (nI v)), h') ∧ (∀ a, a ≠ 200 → hI h' a = hI h a) ∧ hR h' = hR h ∧ ((v = 1 ∧ ∀ j, j < 3 → f j + p / 2 ^ j % 2 ≤ H ∧ hI h' 200 j = nI (f j + p / 2 ^ j % 2)) ∨ (v = 0 ∧ ∃ j, j < 3 ∧ ¬ f j + p / 2 ^ j % 2 ≤ H)) := by
  intro n
  induction n with
  | zero =>
    intro i h hi h2 h3
    refine ⟨1, h, ?_, fun _ _ => rfl, rfl, Or.inl ⟨rfl, fun j hj => ⟨h3 j (by omega), ?_⟩⟩⟩
    · rw [e87_2, if_pos (by rw [nI_leN (by omega) (by omega)]; omega)]
    · rw [h2 j hj, if_pos (by omega)]
  | succ n ih =>
    intro i h hi h2 h3
    have hb : p / 2 ^ i % 2 < 2 := Nat.mod_lt _ (by omega)
    have e := h2 i (by omega)
    rw [if_neg (by omega), Nat.add_zero] at e
    have hfi := hf i (by omega)
    have r : hI (wI h 200 i (nI (f i + p / 2 ^ i % 2))) 200 i = nI (f i + p / 2 ^ i % 2) := by rw [hI_wI, if_pos ⟨rfl, rfl⟩]
    have st : runL (g2 L) d 6 false (some .boolean) kc_87 2 [.ref 163, .int (nI p), .int (nI H), .int (nI i)] [] h = if nI (f i + p / 2 ^ i % 2) ≤ nI H then runL (g2 L) d 6 false (some .boolean) kc_87 2 [.ref 163, .int (nI p), .int (nI H), .int (nI (i + 1))] [] (wI h 200 i (nI (f i + p / 2 ^ i % 2))) else some (some (.int (nI 0)), wI h 200 i (nI (f i + p / 2 ^ i % 2))) := by
      rw [e87_2, if_neg (by rw [nI_leN (by omega) (by omega)]; omega), inB_nI (by omega), asr_d (by omega), asr_d (by omega), asr_d (by omega), ix_nI (by omega), bit_of (by omega) (by omega), e, nI_plus, nI_plus, r]
    by_cases z : f i + p / 2 ^ i % 2 ≤ H
    · rw [if_pos (by rw [nI_leN (by omega) (by omega)]; exact z)] at st
      obtain ⟨v, h', a1, a2, a3, a4⟩ := ih (i + 1) (wI h 200 i (nI (f i + p / 2 ^ i % 2))) (by omega) (fun j hj => by
        by_cases y : j = i
        · rw [y, r, if_pos (by omega)]
        · rw [hI_wI, if_neg (fun q => y q.2), h2 j hj]
          by_cases x : j < i
          · rw [if_pos x, if_pos (by omega)]
          · rw [if_neg x, if_neg (by omega)]) (fun j hj => by
        by_cases y : j = i
        · rw [y]
          exact z
        · exact h3 j (by omega))
      exact ⟨v, h', st.trans a1, fun a ha => by rw [a2 a ha, wI_ne ha], a3, a4⟩
    · rw [if_neg (by rw [nI_leN (by omega) (by omega)]; exact z)] at st
      exact ⟨0, _, st, fun a ha => wI_ne ha, rfl, Or.inr ⟨rfl, i, by omega, z⟩⟩
theorem m87 (d : Nat) {p H a b c : Nat} {h : PH} (hp : p < 8) (hH : H ≤ 15) (ha : a ≤ 15 ∧ b ≤ 15 ∧ c ≤ 15) (h2 : hI h 200 0 = nI a ∧ hI h 200 1 = nI b ∧ hI h 200 2 = nI c) : ∃ v h', exec (g2 L) (d + 1) 87 [.ref 163, .int (nI p), .int (nI H)] h = some (some (.int (nI v)), h') ∧ (∀ a, a ≠ 200 → hI h' a = hI h a) ∧ hR h' = hR h ∧ ((v = 1 ∧ (a + b0 p ≤ H ∧ b + b1 p ≤ H ∧ c + b2 p ≤ H) ∧ hI h' 200 0 = nI (a + b0 p) ∧ hI h' 200 1 = nI (b + b1 p) ∧ hI h' 200 2 = nI (c + b2 p)) ∨ (v = 0 ∧ ¬ (a + b0 p ≤ H ∧ b + b1 p ≤ H ∧ c + b2 p ≤ H))) := by
  have c3 : ∀ j, j < 3 → j = 0 ∨ j = 1 ∨ j = 2 := fun j hj => by omega
  have q0 : p / 2 ^ 0 % 2 = b0 p := by rw [Nat.pow_zero, Nat.div_one]; rfl
  have q1 : p / 2 ^ 1 % 2 = b1 p := rfl
  have q2 : p / 2 ^ 2 % 2 = b2 p := rfl
  obtain ⟨v, h', a1, a2, a3, a4⟩ := m87_loop (L := L) (d := d) (f := lf a b c) hp hH (fun j hj => by
    rcases c3 j hj with rfl | rfl | rfl
    · exact ha.1
    · exact ha.2.1
    · exact ha.2.2) 3 0 h rfl (fun j hj => by
    rw [if_neg (by omega), Nat.add_zero]
    rcases c3 j hj with rfl | rfl | rfl
    · exact h2.1
    · exact h2.2.1
    · exact h2.2.2) (fun j hj => by omega)
  refine ⟨v, h', ?_, a2, a3, ?_⟩
  · rw [x87]
    exact a1
  · rcases a4 with ⟨r1, r2⟩ | ⟨r1, j, r2, r3⟩
    · have k0 := r2 0 (by omega)
      have k1 := r2 1 (by omega)
      have k2 := r2 2 (by omega)
      rw [q0] at k0
      rw [q1] at k1
      rw [q2] at k2
      exact Or.inl ⟨r1, ⟨k0.1, k1.1, k2.1⟩, k0.2, k1.2, k2.2⟩
    · refine Or.inr ⟨r1, fun g => r3 ?_⟩
      rcases c3 j r2 with rfl | rfl | rfl
      · rw [q0]
        exact g.1
      · exact g.2.1
      · exact g.2.2
end Rforce

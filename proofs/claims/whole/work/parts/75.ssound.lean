-- PART: bells, whether a bell rings: the class's side.
section Ssound
variable {L : Nat} {K l r : Nat → Nat} {n m : Nat} {rb rr : Nat → Nat}
theorem m129_10 {d s t bell : Nat} {h : PH} (hS : SD K l r n m rb rr) (hs : s < 4) (ht : t < 576000) (hb : bell < 4) (hC : CT h s K l r n m rb rr) (hw : ∀ i, i < n → hI h (213 + 10 * s + 7) i = iv (wv K l r t i)) (x2 : Int32) : ∀ (u k f : Nat) (v5 : Value), k + u = m → f ≤ 1 → (f = 1 ↔ ∃ k', k' < k ∧ rb k' = bell + 1 ∧ wv K l r t (rr k') ≠ 0) → (¬ ∃ k', k' < k ∧ rb k' = 0 ∧ wv K l r t (rr k') ≠ 0) → ∃ v, runL (g2 L) d 10 false (some .boolean) kc_129 10 [.ref (213 + 10 * s), .int (nI bell), .int x2, .int (nI f), .int (nI k), v5] [] h = some (some (.int (nI v)), h) ∧ v ≤ 1 ∧ (v = 1 ↔ Rg K l r m rb rr bell t) := by
  have m12 := hS.2.2.1
  have n3 := hS.2.1
  intro u
  induction u with
  | zero =>
    intro k f v5 hk hf ef eg
    have e : k = m := by omega
    subst e
    refine ⟨f, ?_, hf, ⟨fun q => ⟨ef.mp q, eg⟩, fun q => ef.mpr q.1⟩⟩
    rw [e129_10 _ _ _ hs, hC.2.1, if_pos (by rw [nI_leN (by omega) (by omega)]; omega)]
    have : nrZ (nI f) = nI f := by
      have : f = 0 ∨ f = 1 := by omega
      rcases this with rfl | rfl <;> decide
    rw [asr_d this]
  | succ u ih =>
    intro k f v5 hk hf ef eg
    obtain ⟨s1, s2, s3⟩ := hS.2.2.2 k (by omega)
    obtain ⟨c1, c2⟩ := hC.2.2.2.1 k (by omega)
    have pb : (nI (rb k) - nI 1 = nI bell) ↔ rb k = bell + 1 := by
      rw [eq_comm, pred_eq (by omega) (by omega), eq_comm]
    have p0 := m1_pred (st := rb k) (by omega)
    have bw := wv_bd (t := t) hS.1 ht n (rr k) s1 s1
    have s0 := e129_10 L d s hs (nI bell) x2 (nI f) (nI k) v5 h
    rw [hC.2.1, if_neg (by rw [nI_leN (by omega) (by omega)]; omega), inB_nI (by omega), asr_d (by omega), ix_nI (by omega), c1, c2, inB_nI (by omega), asr_d (by omega), asr_d (by omega), ix_nI (by omega), hw _ s1] at s0
    have up : ∀ c, (∃ k', k' < k + 1 ∧ rb k' = c ∧ wv K l r t (rr k') ≠ 0) ↔ ((∃ k', k' < k ∧ rb k' = c ∧ wv K l r t (rr k') ≠ 0) ∨ (rb k = c ∧ wv K l r t (rr k) ≠ 0)) := by
      intro c
      constructor
      · rintro ⟨k', q1, q2, q3⟩
        by_cases e : k' = k
        · subst e
          exact Or.inr ⟨q2, q3⟩
        · exact Or.inl ⟨k', by omega, q2, q3⟩
      · rintro (⟨k', q1, q2, q3⟩ | ⟨q2, q3⟩)
        · exact ⟨k', by omega, q2, q3⟩
        · exact ⟨k, by omega, q2, q3⟩
    have s59 : ∀ y, y ≤ 1 → (y = 1 ↔ wv K l r t (rr k) ≠ 0) → (y = 1 → rb k ≠ 0) → ∃ v, runL (g2 L) d 10 false (some .boolean) kc_129 59 [.ref (213 + 10 * s), .int (nI bell), .int x2, .int (nI f), .int (nI k), .int (nI y)] [] h = some (some (.int (nI v)), h) ∧ v ≤ 1 ∧ (v = 1 ↔ Rg K l r m rb rr bell t) := by
      intro y hy ey hr
      have eg' : ¬ ∃ k', k' < k + 1 ∧ rb k' = 0 ∧ wv K l r t (rr k') ≠ 0 := by
        rw [up]
        rintro (q | ⟨q1, q2⟩)
        · exact eg q
        · exact hr (ey.mpr q2) q1
      have s1' := e129_59 L d s hs (nI bell) x2 (nI f) (nI k) (nI y) h
      rw [inB_nI (by omega), asr_d (by omega), ix_nI (by omega), c1, nI_plus] at s1'
      by_cases zf : f = 1
      · rw [if_pos (by rw [Ne, nI_eqI (by omega) (by omega)]; omega)] at s1'
        obtain ⟨v, r1, r2⟩ := ih (k + 1) 1 (.int (nI y)) (by omega) (by omega) (by rw [up]; exact ⟨fun _ => Or.inl (ef.mp zf), fun _ => rfl⟩) eg'
        exact ⟨v, s1'.trans r1, r2⟩
      · rw [if_neg (by rw [Ne, nI_eqI (by omega) (by omega)]; omega)] at s1'
        by_cases zy : y = 1
        · rw [if_neg (by rw [nI_eqI (by omega) (by omega)]; omega)] at s1'
          by_cases zb : rb k = bell + 1
          · rw [if_neg (by rw [Ne, pb]; exact not_not_intro zb)] at s1'
            obtain ⟨v, r1, r2⟩ := ih (k + 1) 1 (.int (nI y)) (by omega) (by omega) (by rw [up]; exact ⟨fun _ => Or.inr ⟨zb, ey.mp zy⟩, fun _ => rfl⟩) eg'
            exact ⟨v, s1'.trans r1, r2⟩
          · rw [if_pos (by rw [Ne, pb]; exact zb)] at s1'
            obtain ⟨v, r1, r2⟩ := ih (k + 1) 0 (.int (nI y)) (by omega) (by omega) (by rw [up]; exact ⟨fun q => by omega, fun q => by
              rcases q with q | q
              · exact absurd (ef.mpr q) zf
              · exact absurd q.1 zb⟩) eg'
            exact ⟨v, s1'.trans r1, r2⟩
        · rw [if_pos (by rw [nI_eqI (by omega) (by omega)]; omega)] at s1'
          obtain ⟨v, r1, r2⟩ := ih (k + 1) 0 (.int (nI y)) (by omega) (by omega) (by rw [up]; exact ⟨fun q => by omega, fun q => by
            rcases q with q | q
            · exact absurd (ef.mpr q) zf
            · exact absurd (ey.mpr q.2) zy⟩) eg'
          exact ⟨v, s1'.trans r1, r2⟩
    by_cases w : wv K l r t (rr k) = 0
    · rw [if_pos ((iv_0 bw).mpr w)] at s0
      obtain ⟨v, r1, r2⟩ := s59 0 (by omega) ⟨fun q => by omega, fun q => absurd w q⟩ (fun q => by omega)
      exact ⟨v, s0.trans r1, r2⟩
    · rw [if_neg (by rw [iv_0 bw]; exact w)] at s0
      by_cases z : rb k = 0
      · rw [if_neg (by rw [Ne, p0]; exact not_not_intro z)] at s0
        exact ⟨0, s0, by omega, ⟨fun q => by omega, fun q => absurd ⟨k, by omega, z, w⟩ q.2⟩⟩
      · rw [if_pos (by rw [Ne, p0]; exact z)] at s0
        obtain ⟨v, r1, r2⟩ := s59 1 (by omega) ⟨fun _ => w, fun _ => rfl⟩ (fun _ => z)
        exact ⟨v, s0.trans r1, r2⟩
theorem m128 (d : Nat) {s t bell : Nat} {h : PH} (hS : SD K l r n m rb rr) (hs : s < 4) (ht : t < 576000) (hb : bell < 4) (hC : CT h s K l r n m rb rr) (hw : CW h s K l r n) (h3 : hI h 3 5 = nI s) : ∃ v h', exec (g2 L) (d + 6) 128 [.ref 2, .int (nI bell), .int (nI t)] h = some (some (.int (nI v)), h') ∧ v ≤ 1 ∧ (v = 1 ↔ Rg K l r m rb rr bell t) ∧ CT h' s K l r n m rb rr ∧ CW h' s K l r n ∧ Fw s h h' := by
  obtain ⟨h', a1, a2, a3, a4⟩ := m130 (L := L) d hS hs ht hC hw
  have hC' := hC.fw a4
  obtain ⟨v, r1, r2, r3⟩ := m129_10 (L := L) (d := d + 4) (h := h') hS hs ht hb hC' a3 (nI t) m 0 0 dm (by omega) (by omega) ⟨fun q => by omega, fun ⟨k', q, _⟩ => by omega⟩ (fun ⟨k', q, _⟩ => by omega)
  have kk : kx_K (213 + 10 * s) = 30 := by
    have : s = 0 ∨ s = 1 ∨ s = 2 ∨ s = 3 := by omega
    rcases this with rfl | rfl | rfl | rfl <;> decide
  refine ⟨v, h', ?_, r2, r3, hC', Or.inr ⟨t, ht, a2, a3⟩, a4⟩
  rw [x128, h3, if_neg (by rw [nI_ltN (by omega) (by omega)]; omega), if_neg (by rw [nI_leN (by omega) (by omega)]; omega), inB_nI (by omega), asr_d (by omega), ix_nI (by omega), okA_of kk (by omega), asr_true, x129 _ _ _ hs, a1, cV_s, r1, cI_s]
  by_cases z : v = 1
  · rw [z, if_neg (by decide)]
  · rw [show v = 0 by omega, if_pos rfl]
end Ssound

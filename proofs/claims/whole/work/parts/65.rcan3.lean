-- PART: rounds, canChoose, whole.
section Rcan3
variable {L : Nat}
theorem m88 (d : Nat) {H m f0 f1 f2 : Nat} {cs : Nat → Nat} {h : PH} (hH : H ≤ 15) (hm : m ≤ 16) (hcs : ∀ i, i < m → cs i < 256) (hf : f0 ≤ H ∧ f1 ≤ H ∧ f2 ≤ H) (h2 : hI h 200 0 = nI f0 ∧ hI h 200 1 = nI f1 ∧ hI h 200 2 = nI f2) (h9 : hI h 163 9 = nI m) (h1 : ∀ i, i < m → hI h 201 i = nI (cs i)) : ∃ v h', exec (g2 L) (d + 2) 88 [.ref 163, .int (nI H)] h = some (some (.int (nI v)), h') ∧ v ≤ 1 ∧ (v = 1 ↔ Okw H (csl cs 0 m) f0 f1 f2) ∧ (∀ a, a ≠ 203 → a ≠ 204 → hI h' a = hI h a) ∧ hR h' = hR h := by
  obtain ⟨e0, e1, e2⟩ := h2
  obtain ⟨g0, g1, g2'⟩ := hf
  obtain ⟨g, p1, p2, p3, p4⟩ := m55 (L := L) d (h := h) (a := 203) (k34 (Or.inl rfl)).1 (by omega) (by omega) (k34 (Or.inl rfl)).2.1 (by omega) (nI 99)
  have r0 : hI g 200 0 = nI f0 := by rw [p3 200 (by omega)]; exact e0
  have r1 : hI g 200 1 = nI f1 := by rw [p3 200 (by omega)]; exact e1
  have r2 : hI g 200 2 = nI f2 := by rw [p3 200 (by omega)]; exact e2
  have hT : Tb (wI g 203 (f0 * 16 + f1) (nI f2)) 203 (fun x y => if x = f0 ∧ y = f1 then f2 else 99) := by
    intro x y hx hy
    show _ = nI (if x = f0 ∧ y = f1 then f2 else 99)
    rw [hI_wI]
    by_cases e : x = f0 ∧ y = f1
    · rw [if_pos ⟨rfl, by rw [e.1, e.2]⟩, if_pos e]
    · rw [if_neg (fun q => e (by omega)), if_neg e, p2 _ (by omega)]
  have hS : ∀ x y z, SF H (fun x y => if x = f0 ∧ y = f1 then f2 else 99) x y z ↔ x = f0 ∧ y = f1 ∧ z = f2 := by
    intro x y z
    constructor
    · rintro ⟨q1, q2, q3, q4⟩
      have q3' : (if x = f0 ∧ y = f1 then f2 else 99) = z := q3
      by_cases e : x = f0 ∧ y = f1
      · rw [if_pos e] at q3'
        exact ⟨e.1, e.2, q3'.symm⟩
      · rw [if_neg e] at q3'
        omega
    · rintro ⟨rfl, rfl, rfl⟩
      exact ⟨g0, g1, if_pos ⟨rfl, rfl⟩, g2'⟩
  have hF : ∀ x y, (fun x y => if x = f0 ∧ y = f1 then f2 else 99) x y ≤ 99 := by
    intro x y
    show (if x = f0 ∧ y = f1 then f2 else 99) ≤ 99
    split <;> omega
  obtain ⟨v, h', a1, a2, a3, a4, a5⟩ := m88_47 (L := L) (d := d) hH hm hcs m 0 203 204 _ dm (wI g 203 (f0 * 16 + f1) (nI f2)) (by omega) (Or.inl rfl) (Or.inr rfl) (by omega) hF hT ⟨f0, f1, f2, (hS _ _ _).mpr ⟨rfl, rfl, rfl⟩⟩ (by rw [wI_ne (by omega), p3 _ (by omega)]; exact h9) (fun i hi => by rw [wI_ne (by omega), p3 _ (by omega)]; exact h1 i hi)
  refine ⟨v, h', ?_, a2, a3.trans (Ex3_at hS), fun a q1 q2 => by rw [a4 a q1 q2, wI_ne q1, p3 a q1], a5.trans p4⟩
  rw [x88, p1, cV_s, r0, r1, r2, nI_times, nI_plus, inB_nI (by omega), asr_d (by omega), ix_nI (by omega)]
  exact a1
end Rcan3

-- PART: rounds, canChoose, the loop.
def csl (cs : Nat → Nat) : Nat → Nat → List (Nat → Prop)
  | _, 0 => []
  | i, n + 1 => (fun p => cs i / 2 ^ p % 2 = 1) :: csl cs (i + 1) n
theorem k34 {a : Nat} (ha : a = 203 ∨ a = 204) : kx_K a = 1 ∧ kx_L a = 256 ∧ 2 ≤ a ∧ a < 289 := by
  rcases ha with rfl | rfl <;> exact ⟨by decide, by decide, by decide, by decide⟩
section Rcan
variable {L : Nat}
theorem m89 (d : Nat) {a0 a1 w H : Nat} {F : Nat → Nat → Nat} {h : PH} (k0 : a0 = 203 ∨ a0 = 204) (ka : a1 = 203 ∨ a1 = 204) (hne : a0 ≠ a1) (hw : w < 256) (hH : H ≤ 15) (hF : ∀ x y, F x y ≤ 99) (hA : Tb h a0 F) (hT : Tb h a1 (fun _ _ => 99)) : ∃ h' T' c', exec (g2 L) (d + 1) 89 [.ref a0, .ref a1, .int (nI w), .int (nI H)] h = some (some (.int (nI c')), h') ∧ (∀ x y, T' x y ≤ 99) ∧ Tb h' a1 T' ∧ Kn H F (fun p => w / 2 ^ p % 2 = 1) (fun _ _ _ => True) T' c' ∧ (∀ a, a ≠ a1 → hI h' a = hI h a) ∧ hR h' = hR h := by
  obtain ⟨h', T', c', e1, e2, e3, e4, e5, e6, e7⟩ := m89_6 (L := L) (d := d) (k34 k0) (k34 ka) hne hw hH hF (H + 1) 0 0 (fun _ _ => 99) dm dm dm dm dm dm dm dm h (by omega) hA (fun _ _ => Nat.le_refl _) hT ⟨fun _ _ _ _ => Or.inl rfl, fun x y p q => by unfold Pz at q; omega, by omega, fun q => by omega, fun ⟨x, y, p, q, _⟩ => by unfold Pz at q; omega⟩
  refine ⟨h', T', c', ?_, e3, e4, e5, e6, e7⟩
  rw [x89]
  exact e1
theorem m88_47 {d H m : Nat} {cs : Nat → Nat} (hH : H ≤ 15) (hm : m ≤ 16) (hcs : ∀ i, i < m → cs i < 256) : ∀ (n i a2 a3 : Nat) (F : Nat → Nat → Nat) (v5 : Value) (h : PH), i + n = m → (a2 = 203 ∨ a2 = 204) → (a3 = 203 ∨ a3 = 204) → a2 ≠ a3 → (∀ x y, F x y ≤ 99) → Tb h a2 F → (∃ x y z, SF H F x y z) → hI h 163 9 = nI m → (∀ i, i < m → hI h 201 i = nI (cs i)) → ∃ v h', runL (g2 L) (d + 1) 6 false (some .boolean) kc_88 47 [.ref 163, .int (nI H), .ref a2, .ref a3, .int (nI i), v5] [] h = some (some (.int (nI v)), h') ∧ v ≤ 1 ∧ (v = 1 ↔ Ex3 H (csl cs i n) (SF H F)) ∧ (∀ a, a ≠ 203 → a ≠ 204 → hI h' a = hI h a) ∧ hR h' = hR h := by
  intro n
  induction n with
  | zero =>
    intro i a2 a3 F v5 h hi k2 k3 hne hF hA hne' h9 h1
    refine ⟨1, h, ?_, Nat.le_refl _, ⟨fun _ => ?_, fun _ => rfl⟩, fun _ _ _ => rfl, rfl⟩
    · rw [e88_47, h9, if_pos (by rw [nI_leN (by omega) (by omega)]; omega)]
    · obtain ⟨x, y, z, q⟩ := hne'
      exact ⟨x, y, z, q, trivial⟩
  | succ n ih =>
    intro i a2 a3 F v5 h hi k2 k3 hne hF hA hne' h9 h1
    obtain ⟨g, a1, bb1, c1, d1⟩ := m55 (L := L) d (h := h) (k34 k3).1 (k34 k3).2.2.1 (k34 k3).2.2.2 (k34 k3).2.1 (by omega) (nI 99)
    obtain ⟨h2, T, c, p1, p2, p3, p4, p5, p6⟩ := m89 (L := L) d (h := g) k2 k3 hne (hcs i (by omega)) hH hF (fun x y q1 q2 => by rw [c1 a2 hne]; exact hA x y q1 q2) (fun x y q1 q2 => bb1 _ (by omega))
    have e1 : hI g 201 i = nI (cs i) := by rw [c1 201 (by omega)]; exact h1 i (by omega)
    have st : runL (g2 L) (d + 1) 6 false (some .boolean) kc_88 47 [.ref 163, .int (nI H), .ref a2, .ref a3, .int (nI i), v5] [] h = if c = 1 then runL (g2 L) (d + 1) 6 false (some .boolean) kc_88 47 [.ref 163, .int (nI H), .ref a3, .ref a2, .int (nI (i + 1)), .ref a2] [] h2 else some (some (.int (nI 0)), h2) := by
      rw [e88_47, h9, if_neg (by rw [nI_leN (by omega) (by omega)]; omega), a1, cV_s, inB_nI (by omega), asr_d (by omega), ix_nI (by omega), e1, p1, cI_s, nI_plus]
      by_cases z : c = 1
      · rw [z, if_pos (by decide), if_pos rfl]
      · have := p4.2.2.1
        rw [if_neg (by rw [show c = 0 by omega]; exact fun q => q rfl), if_neg z]
    have fr : ∀ a, a ≠ 203 → a ≠ 204 → hI h2 a = hI h a := fun a q1 q2 => by rw [p5 a (by omega), c1 a (by omega)]
    by_cases z : c = 1
    · rw [if_pos z] at st
      obtain ⟨x, y, p, -, v1, v2, v3, v4, v5', v6, v7, v8⟩ := p4.2.2.2.mp z
      have tl := p4.2.1 x y p trivial ⟨v1, v2, v3, v4, v5', v6, v7, v8⟩
      obtain ⟨v, h', r1, r2, r3, r4, r5⟩ := ih (i + 1) a3 a2 T (.ref a2) h2 (by omega) k3 k2 (Ne.symm hne) p2 p3 ⟨x + b0 p, y + b1 p, _, v6, v7, rfl, by omega⟩ (by rw [fr 163 (by omega) (by omega)]; exact h9) (fun j hj => by rw [fr 201 (by omega) (by omega)]; exact h1 j hj)
      refine ⟨v, h', st.trans r1, r2, ?_, fun a q1 q2 => by rw [r4 a q1 q2, fr a q1 q2], r5.trans (p6.trans d1)⟩
      rw [r3]
      exact (Kn_step hH p4).symm
    · rw [if_neg z] at st
      have c0 : c = 0 := by have := p4.2.2.1; omega
      refine ⟨0, h2, st, by omega, ⟨fun q => by omega, fun q => ?_⟩, fr, p6.trans d1⟩
      rw [c0] at p4
      exact absurd q (Kn_none p4)
end Rcan

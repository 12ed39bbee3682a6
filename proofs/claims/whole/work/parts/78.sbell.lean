-- PART: bells, the strips alike on both sides, and the calls.
/-- strip s alike on both sides -/
def SAs (h : PH) (s : Nat) : Prop := ∃ (K l r : Nat → Nat) (n m : Nat) (rb rr : Nat → Nat), SD K l r n m rb rr ∧ CT h s K l r n m rb rr ∧ CW h s K l r n ∧ MS h s K l r m rb rr
def SA (h : PH) (A : Nat → Nat) : Prop := ∀ s, s < A 5 → SAs h s
def Kz (h h' : PH) : Prop := (∀ a, (a = 1 ∨ (97 ≤ a ∧ a ≤ 127) ∨ (205 ≤ a ∧ a ≤ 212) ∨ (256 ≤ a ∧ a ≤ 261)) → hI h' a = hI h a) ∧ (∀ k, k < 11 → hI h' 253 k = hI h 253 k) ∧ Pk h h'
theorem CT.cg {h h' : PH} {s : Nat} {K l r : Nat → Nat} {n m : Nat} {rb rr : Nat → Nat} (hC : CT h s K l r n m rb rr) (e : ∀ a, 213 + 10 * s ≤ a → a ≤ 213 + 10 * s + 9 → hI h' a = hI h a) : CT h' s K l r n m rb rr := by
  unfold CT
  rw [e (213 + 10 * s) (by omega) (by omega), e (213 + 10 * s + 1) (by omega) (by omega), e (213 + 10 * s + 2) (by omega) (by omega), e (213 + 10 * s + 3) (by omega) (by omega), e (213 + 10 * s + 5) (by omega) (by omega), e (213 + 10 * s + 6) (by omega) (by omega), e (213 + 10 * s + 8) (by omega) (by omega), e (213 + 10 * s + 9) (by omega) (by omega)]
  exact hC
theorem CW.cg {h h' : PH} {s : Nat} {K l r : Nat → Nat} {n : Nat} (hC : CW h s K l r n) (e : ∀ a, 213 + 10 * s ≤ a → a ≤ 213 + 10 * s + 9 → hI h' a = hI h a) : CW h' s K l r n := by
  unfold CW
  rw [e (213 + 10 * s) (by omega) (by omega), e (213 + 10 * s + 7) (by omega) (by omega)]
  exact hC
theorem SAs.cg {h h' : PH} {s : Nat} (hS : SAs h s) (e : ∀ a, 213 + 10 * s ≤ a → a ≤ 213 + 10 * s + 9 → hI h' a = hI h a) (e2 : ∀ a, 257 ≤ a → a ≤ 261 → hI h' a = hI h a) : SAs h' s := by
  obtain ⟨K, l, r, n, m, rb, rr, h1, h2, h3, h4⟩ := hS
  exact ⟨K, l, r, n, m, rb, rr, h1, h2.cg e, h3.cg e, h4.cg e2⟩
theorem SA.kp {h h' : PH} {A A' : Nat → Nat} (hS : SA h A) (hk : Kp h h') (h5 : A' 5 ≤ A 5) (h4 : A 5 ≤ 4) : SA h' A' := fun s hs => (hS s (by omega)).cg (fun a p q => hk.1 a (by omega)) (fun a p q => hk.1 a (by omega))
section Sbell
variable {L n : Nat} {h : PH} {A B : Nat → Nat}
theorem bells (hC : Core n h A B) (hS : SA h A) : ∃ (R : Nat → Nat → Prop) (I : PH → Prop), StC L R I ∧ StM L R I ∧ Ch R I ∧ (∀ g, I g → RC g 0 A ∧ RM g 254 A) ∧ I h ∧ ∀ g, I g → Core (n + 1) g A B ∧ SA g A ∧ Kz h g := by
  obtain ⟨c1, c2, c3, c4, c5, c6, c7⟩ := id hC
  have a5 := c5.2.2.1
  have a6 := c5.2.2.2.1
  have f6 := c1.ch
  rw [Nat.zero_add] at f6
  have g6 : hI h 254 6 = nI (A 6) - nI 1 := c3 6 (by omega)
  by_cases z : A 6 = 0
  · rw [z, nI_p0] at f6 g6
    refine ⟨fun _ _ => False, fun g => g = h, ?_, ?_, Or.inl ⟨fun g hg => by rw [hg]; exact f6, fun _ _ q => q⟩, fun g hg => by rw [hg]; exact ⟨c1, c3⟩, rfl, fun g hg => ?_⟩
    · intro d g bell t hg hb ht
      refine ⟨0, h, ?_, by omega, ⟨fun q => by omega, fun q => q.elim⟩, rfl⟩
      rw [hg, x128, f6, if_pos (by decide)]
    · intro d g bell t hg hb ht
      refine ⟨0, h, ?_, by omega, ⟨fun q => by omega, fun q => q.elim⟩, rfl⟩
      rw [hg, x244, g6, if_neg (fun q => q rfl)]
    · rw [hg]
      exact ⟨hC.mono (Nat.le_succ _), hS, fun _ _ => rfl, fun _ _ => rfl, fun _ _ _ => rfl⟩
  · obtain ⟨s, hs⟩ : ∃ s, A 6 = s + 1 := ⟨A 6 - 1, by omega⟩
    rw [hs, nI_m1_plus] at f6 g6
    obtain ⟨K, l, r, k, m, rb, rr, h1, h2, h3, h4⟩ := hS s (by omega)
    have s4 : s < 4 := by omega
    obtain ⟨p, p1, p2⟩ := h2.2.2.2.2.2
    refine ⟨Rg K l r m rb rr, fun g => CT g s K l r k m rb rr ∧ CW g s K l r k ∧ (∀ a, a ≠ 213 + 10 * s → a ≠ 213 + 10 * s + 7 → a ≠ 287 → hI g a = hI h a) ∧ hI g (213 + 10 * s) 12 = nI p, ?_, ?_, Or.inr ⟨s, p, s4, fun g hg => ⟨by rw [hg.2.2.1 3 (by omega) (by omega) (by omega)]; exact f6, hg.2.2.2⟩, ?_⟩, fun g hg => ⟨c1.congr (fun a p q => hg.2.2.1 a (by omega) (by omega) (by omega)), c3.congr (hg.2.2.1 254 (by omega) (by omega) (by omega))⟩, ⟨h2, h3, fun _ _ _ _ => rfl, p1⟩, fun g hg => ?_⟩
    · intro d g bell t ⟨i1, i2, i3, i4⟩ hb ht
      obtain ⟨v, h', v1, v2, v3, v4, v5, v6⟩ := m128 (L := L) d h1 s4 ht hb i1 i2 (by rw [i3 3 (by omega) (by omega) (by omega)]; exact f6)
      exact ⟨v, h', v1, v2, v3, v4, v5, fun a q1 q2 q3 => (v6.1 a q1 q2).trans (i3 a q1 q2 q3), (v6.2.1 12 (by omega)).trans i4⟩
    · intro d g bell t ⟨i1, i2, i3, i4⟩ hb ht
      obtain ⟨v, h', v1, v2, v3, v4, v5⟩ := m244 (L := L) (d + 2) h1 s4 ht hb (h4.cg (fun a q1 q2 => i3 a (by omega) (by omega) (by omega))) (by rw [i3 254 (by omega) (by omega) (by omega)]; exact g6)
      exact ⟨v, h', v1, v2, v3, i1.cg (fun a q1 q2 => v4 a (by omega)), i2.cg (fun a q1 q2 => v4 a (by omega)), fun a q1 q2 q3 => (v4 a q3).trans (i3 a q1 q2 q3), by rw [v4 _ (by omega)]; exact i4⟩
    · rcases p2 with p2 | ⟨p2, p3⟩
      · exact Or.inl p2
      · refine Or.inr ⟨by omega, by omega, fun bb t => ?_⟩
        have e : ∀ i, i < k → wv K l r (t + p) i = wv K l r t i := fun i hi => wv_pd h1.1 p2 p3 k i hi hi
        unfold Rg
        have e1 : ∀ c, (∃ j, j < m ∧ rb j = c ∧ wv K l r (t + p) (rr j) ≠ 0) ↔ (∃ j, j < m ∧ rb j = c ∧ wv K l r t (rr j) ≠ 0) := by
          intro c
          constructor
          · rintro ⟨j, j1, j2, j3⟩
            rw [e _ (h1.2.2.2 j j1).1] at j3
            exact ⟨j, j1, j2, j3⟩
          · rintro ⟨j, j1, j2, j3⟩
            rw [← e _ (h1.2.2.2 j j1).1] at j3
            exact ⟨j, j1, j2, j3⟩
        rw [e1, e1]
    · obtain ⟨i1, i2, i3, i4⟩ := hg
      refine ⟨?_, fun s' hs' => ?_, fun a ha => i3 a (by omega) (by omega) (by omega), fun q _ => by rw [i3 253 (by omega) (by omega) (by omega)], fun a q1 q2 => i3 a (by omega) (by omega) (by omega)⟩
      · exact ⟨c1.congr (fun a p q => i3 a (by omega) (by omega) (by omega)), c2.congr (fun a p q => i3 a (by omega) (by omega) (by omega)), c3.congr (i3 254 (by omega) (by omega) (by omega)), c4.congr (i3 255 (by omega) (by omega) (by omega)), c5.mono (Nat.le_succ _), c6.mono (Nat.le_succ _), c7⟩
      · by_cases e : s' = s
        · subst e
          exact ⟨K, l, r, k, m, rb, rr, h1, i1, i2, h4.cg (fun a q1 q2 => i3 a (by omega) (by omega) (by omega))⟩
        · exact (hS s' hs').cg (fun a q1 q2 => i3 a (by omega) (by omega) (by omega)) (fun a q1 q2 => i3 a (by omega) (by omega) (by omega))
/-- what a call about bells leaves -/
def Bel (L mc mm : Nat) (ac am : List Value) (n : Nat) (h : PH) (A B : Nat → Nat) : Prop := ∃ x h1 h2, exec (g2 L) 100 mc ac h = some (some (.int x), h1) ∧ exec (g2 L) 100 mm am h1 = some (some (.int x), h2) ∧ Core (n + 1) h2 A B ∧ SA h2 A ∧ Kz h h2
theorem Bel.of {mc mm : Nat} {ac am : List Value} {I : PH → Prop} (h1 : Two L mc mm ac am I h) (h2 : ∀ g, I g → Core (n + 1) g A B ∧ SA g A ∧ Kz h g) : Bel L mc mm ac am n h A B := by
  obtain ⟨x, g1, g2', a1, a2, a3⟩ := h1
  exact ⟨x, g1, g2', a1, a2, h2 g2' a3⟩
theorem op_rings (hC : Core n h A B) (hS : SA h A) (x y : Int32) : Bel L 125 241 [.ref 2, .int x, .int y] [.ref 253, .int x, .int y] n h A B := by
  obtain ⟨R, I, i1, i2, i3, i4, i5, i6⟩ := bells (L := L) hC hS
  exact Bel.of (two_rings i1 i2 i5 x y) i6
theorem op_next (hC : Core n h A B) (hS : SA h A) (x y : Int32) : Bel L 135 248 [.ref 2, .int x, .int y] [.ref 253, .int x, .int y] n h A B := by
  obtain ⟨R, I, i1, i2, i3, i4, i5, i6⟩ := bells (L := L) hC hS
  exact Bel.of (two_next i1 i2 i3 i5 x y) i6
theorem op_often (hC : Core n h A B) (hS : SA h A) (x y : Int32) : Bel L 137 250 [.ref 2, .int x, .int y] [.ref 253, .int x, .int y] n h A B := by
  obtain ⟨R, I, i1, i2, i3, i4, i5, i6⟩ := bells (L := L) hC hS
  exact Bel.of (two_often i1 i2 i5 x y) i6
theorem op_together (hC : Core n h A B) (hS : SA h A) (x z y : Int32) : Bel L 138 251 [.ref 2, .int x, .int z, .int y] [.ref 253, .int x, .int z, .int y] n h A B := by
  obtain ⟨R, I, i1, i2, i3, i4, i5, i6⟩ := bells (L := L) hC hS
  exact Bel.of (two_together i1 i2 i3 i5 x z y) i6
theorem op_late (hC : Core n h A B) (hS : SA h A) (x y : Int32) : Bel L 139 252 [.ref 2, .int x, .int y] [.ref 253, .int x, .int y] n h A B := by
  obtain ⟨R, I, i1, i2, i3, i4, i5, i6⟩ := bells (L := L) hC hS
  have c5 := hC.2.2.2.2.1
  have vw := c5.2.2.2.2.1
  exact Bel.of (two_late i1 i2 i4 c5.1 vw.2.2.1 (fun i hi => (vw.2.2.2.2.2 i hi).2.2.1) i5 x y) i6
theorem op_lesson (hC : Core n h A B) (hS : SA h A) (x y : Int32) : Bel L 142 254 [.ref 2, .int x, .int y] [.ref 253, .int x, .int y] n h A B := by
  obtain ⟨R, I, i1, i2, i3, i4, i5, i6⟩ := bells (L := L) hC hS
  exact Bel.of (two_lesson i1 i2 i3 i4 hC.2.2.2.2.1.1 i5 x y) i6
end Sbell

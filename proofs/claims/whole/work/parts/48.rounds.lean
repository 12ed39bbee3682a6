-- PART: rounds, the reference's answer.
def isPlan (A : Nat → Nat) (H r x y z : Nat) : Prop := r ≤ 3 ∧ In3 r x y z ∧ OkR A (lf x y z) r H ∧ (∀ x' y' z', In3 r x' y' z' → (x' < x ∨ (x' = x ∧ (y' < y ∨ (y' = y ∧ z' < z)))) → ¬ OkR A (lf x' y' z') r H) ∧ ∀ r', r' < r → ∀ x y z, In3 r' x y z → ¬ OkR A (lf x y z) r' H
def noPlan (A : Nat → Nat) (H : Nat) : Prop := ∀ r, r ≤ 3 → ∀ x y z, In3 r x y z → ¬ OkR A (lf x y z) r H
theorem isPlan.one {A : Nat → Nat} {H r x y z r' x' y' z' : Nat} (h : isPlan A H r x y z) (h' : isPlan A H r' x' y' z') : r = r' ∧ x = x' ∧ y = y' ∧ z = z' := by
  obtain ⟨a1, a2, a3, a4, a5⟩ := h
  obtain ⟨b1, b2, b3, b4, b5⟩ := h'
  have hr : r = r' := by
    rcases Nat.lt_trichotomy r r' with q | q | q
    · exact absurd a3 (b5 r q x y z a2)
    · exact q
    · exact absurd b3 (a5 r' q x' y' z' b2)
  subst hr
  have n1 : ¬ (x < x' ∨ (x = x' ∧ (y < y' ∨ (y = y' ∧ z < z')))) := fun q => b4 x y z a2 q a3
  have n2 : ¬ (x' < x ∨ (x' = x ∧ (y' < y ∨ (y' = y ∧ z' < z)))) := fun q => a4 x' y' z' b2 q b3
  omega
theorem isPlan.no {A : Nat → Nat} {H r x y z : Nat} (h : isPlan A H r x y z) (h' : noPlan A H) : False := h' r h.1 x y z h.2.1 h.2.2.1
/-- what is told of a plan -/
def pa (r : Nat) (l : Nat → Nat) (w : Int32) : Int32 := if w = m1 then nI r else if nI r ≤ w then m1 else nI (l (ix w))
section Rounds
variable {L : Nat} {A : Nat → Nat}
theorem m205 (d : Nat) {H q r : Nat} {h : PH} (hr : r ≤ 3) (hH : H ≤ 15) (hV : VW A q) (hq : q ≤ 100000000) (h0 : A 0 < 576000) (hS : Sg h A (lf 0 0 0) 0) : (∃ x y z h', In3 r x y z ∧ OkR A (lf x y z) r H ∧ (∀ x' y' z', In3 r x' y' z' → (x' < x ∨ (x' = x ∧ (y' < y ∨ (y' = y ∧ z' < z)))) → ¬ OkR A (lf x' y' z') r H) ∧ exec (g2 L) (d + 4) 205 [.ref 253, .int (nI r), .int (nI H)] h = some (some (.int (nI 1)), h') ∧ (∀ i, i < r → hI h' 276 i = nI (lf x y z i)) ∧ Fr h h') ∨ (∃ h', (∀ x y z, In3 r x y z → ¬ OkR A (lf x y z) r H) ∧ exec (g2 L) (d + 4) 205 [.ref 253, .int (nI r), .int (nI H)] h = some (some (.int (nI 0)), h') ∧ Sg h' A (lf 0 0 0) 0 ∧ Fr h h') := by
  by_cases r0 : r = 0
  · subst r0
    obtain ⟨f, h2, b1, b2, b3, b4, b5, b6⟩ := tst (L := L) d hH (by omega) hV h0 hS
    have okl : ∀ x y z, OkR A (lf x y z) 0 H ↔ OkR A (lf 0 0 0) 0 H := fun x y z => OkR_len (fun i hi => by omega)
    have st : exec (g2 L) (d + 4) 205 [.ref 253, .int (nI 0), .int (nI H)] h = some (some (.int (nI f)), h2) := by
      rw [x205, if_neg (fun q => q rfl), b1, cI_s, asr_d (nrZ_le b2)]
    by_cases z : f = 1
    · rw [z] at st
      refine Or.inl ⟨1, 1, 1, h2, ⟨Nat.le_refl _, Nat.le_refl _, Nat.le_refl _, Nat.le_refl _, Nat.le_refl _, Nat.le_refl _⟩, (okl 1 1 1).mpr (b3.mp z), fun x' y' z' hx hlt => ?_, st, fun i hi => by omega, b5⟩
      have k1 := hx.1
      have k2 := hx.2.2.1
      have k3 := hx.2.2.2.2.1
      have k4 : x' ≤ 1 := hx.2.1
      have k5 : y' ≤ 1 := hx.2.2.2.1
      omega
    · rw [show f = 0 by omega] at st
      exact Or.inr ⟨h2, fun x y w hx o => z (b3.mpr ((okl x y w).mp o)), st, b4, b5⟩
  · have st : exec (g2 L) (d + 4) 205 [.ref 253, .int (nI r), .int (nI H)] h = runL (g2 L) (d + 3) 11 false (some .boolean) kc_205 18 [.ref 253, .int (nI r), .int (nI H)] [] (wI h 276 0 (nI 1)) := by
      rw [x205, if_pos (by rw [Ne, nI_eqI (by omega) (by omega)]; exact r0)]
    rcases m205_18 (L := L) (d := d) (r := r) ⟨by omega, hr⟩ hH hV hq h0 30 1 (wI h 276 0 (nI 1)) rfl (Nat.le_refl _) hS.w6 (by rw [hI_wI, if_pos ⟨rfl, rfl⟩]) (fun x y z hx hlt => by have := hx.1; omega) with ⟨x, y, z, h', g1, g2', g3, g4, g5, g6⟩ | ⟨h', g1, g2', g3, g4⟩
    · exact Or.inl ⟨x, y, z, h', g1, g2', g3, st.trans g4, g5, (Fr.w (by omega)).tr g6⟩
    · exact Or.inr ⟨h', g1, st.trans g2', g3, (Fr.w (by omega)).tr g4⟩
theorem m203_27 {d H q : Nat} (hH : H ≤ 15) (hV : VW A q) (hq : q ≤ 100000000) (h0 : A 0 < 576000) {w : Int32} (hw : w = m1 ∨ ∃ i, i ≤ 2 ∧ w = nI i) : ∀ (n r : Nat) (h : PH), r + n = 4 → Sg h A (lf 0 0 0) 0 → (∀ r', r' < r → ∀ x y z, In3 r' x y z → ¬ OkR A (lf x y z) r' H) → ∃ h', Fr h h' ∧ ((∃ s x y z, isPlan A H s x y z ∧ runL (g2 L) (d + 4) 11 false (some .int) kc_203 27 [.ref 253, .int (nI H), .int w, .int (nI r)] [] h = some (some (.int (pa s (lf x y z) w)), h')) ∨ (noPlan A H ∧ runL (g2 L) (d + 4) 11 false (some .int) kc_203 27 [.ref 253, .int (nI H), .int w, .int (nI r)] [] h = some (some (.int m1), h'))) := by
  intro n
  induction n with
  | zero =>
    intro r h hr hS hno
    refine ⟨h, Fr.rf, Or.inr ⟨fun r' hr' => hno r' (by omega), ?_⟩⟩
    rw [e203_27, if_pos (by rw [nI_ltN (by omega) (by omega)]; omega)]
  | succ n ih =>
    intro r h hr hS hno
    rcases m205 (L := L) d (r := r) (by omega) hH hV hq h0 hS with ⟨x, y, z, h', g1, g2', g3, g4, g5, g6⟩ | ⟨h1, g1, g2', g3, g4⟩
    · refine ⟨h', g6, Or.inl ⟨r, x, y, z, ⟨by omega, g1, g2', g3, hno⟩, ?_⟩⟩
      rw [e203_27, if_neg (by rw [nI_ltN (by omega) (by omega)]; omega), g4, cI_s, if_neg (by decide)]
      unfold pa
      by_cases k : w = m1
      · rw [if_neg (fun q => q k), if_pos k]
      · rw [if_pos k, if_neg k]
        by_cases k2 : nI r ≤ w
        · rw [if_pos k2, if_pos k2]
        · rw [if_neg k2, if_neg k2]
          rcases hw with hw | ⟨i, hi, rfl⟩
          · exact absurd hw k
          · rw [nI_leN (by omega) (by omega)] at k2
            rw [inB_nI (by omega), asr_d (by omega), ix_nI (by omega), g5 i (by omega)]
    · obtain ⟨h', f1, f2⟩ := ih (r + 1) h1 (by omega) g3 (fun r' hr' => by
        by_cases e : r' = r
        · subst e
          exact g1
        · exact hno r' (by omega))
      have st : runL (g2 L) (d + 4) 11 false (some .int) kc_203 27 [.ref 253, .int (nI H), .int w, .int (nI r)] [] h = runL (g2 L) (d + 4) 11 false (some .int) kc_203 27 [.ref 253, .int (nI H), .int w, .int (nI (r + 1))] [] h1 := by
        rw [e203_27, if_neg (by rw [nI_ltN (by omega) (by omega)]; omega), g2', cI_s, if_pos rfl, nI_plus]
      refine ⟨h', g4.tr f1, ?_⟩
      rcases f2 with ⟨s, x, y, z, f3, f4⟩ | ⟨f3, f4⟩
      · exact Or.inl ⟨s, x, y, z, f3, st.trans f4⟩
      · exact Or.inr ⟨f3, st.trans f4⟩
/-- the reference's answer to rounds -/
theorem m203 (d : Nat) {H q : Nat} {h : PH} (hH : H ≤ 15) (hV : VW A q) (hq : q ≤ 100000000) (h0 : A 0 < 576000) (hM : RM h 254 A) {w : Int32} (hw : w = m1 ∨ ∃ i, i ≤ 2 ∧ w = nI i) : ∃ h', Fr h h' ∧ ((∃ s x y z, isPlan A H s x y z ∧ exec (g2 L) (d + 5) 203 [.ref 253, .int (nI H), .int w] h = some (some (.int (pa s (lf x y z) w)), h')) ∨ (noPlan A H ∧ exec (g2 L) (d + 5) 203 [.ref 253, .int (nI H), .int w] h = some (some (.int m1), h'))) := by
  obtain ⟨h1, a1, a2, a3, a4, a5, a6⟩ := m204 (L := L) (d + 2) hV hM (lf 0 0 0)
  have hS : Sg h1 A (lf 0 0 0) 0 := ⟨a2, a3, fun r' hr' k hk p hp => by
    have : r' = 0 := by omega
    subst this
    exact a4 k hk p hp⟩
  obtain ⟨h', f1, f2⟩ := m203_27 (L := L) (d := d) hH hV hq h0 hw 4 0 h1 rfl hS (fun r' hr' => by omega)
  have hw' : m1 ≤ w ∧ w ≤ nI 2 := by
    rcases hw with rfl | ⟨i, hi, rfl⟩
    · exact ⟨by decide, by decide⟩
    · exact ⟨(m1_le_nI (by omega)).mpr trivial, (nI_leN (by omega) (by omega)).mpr hi⟩
  have st : exec (g2 L) (d + 5) 203 [.ref 253, .int (nI H), .int w] h = runL (g2 L) (d + 4) 11 false (some .int) kc_203 27 [.ref 253, .int (nI H), .int w, .int (nI 0)] [] h1 := by
    rw [x203, m153, cI_s, if_neg (by rw [bI_0]; exact not_not_intro ⟨(nI_leN (by omega) (by omega)).mpr (by omega), (nI_leN (by omega) (by omega)).mpr hH⟩), m153, cI_s, if_pos (bI_nz.mpr hw'), a1, cV_s]
  refine ⟨h', a5.tr f1, ?_⟩
  rcases f2 with ⟨s, x, y, z, f3, f4⟩ | ⟨f3, f4⟩
  · exact Or.inl ⟨s, x, y, z, f3, st.trans f4⟩
  · exact Or.inr ⟨f3, st.trans f4⟩
end Rounds

-- PART: rounds, the reference seeks, all.
def er (r i : Nat) : Nat := if i < r then 30 else 1
def In2 (r y z : Nat) : Prop := 1 ≤ y ∧ y ≤ er r 1 ∧ 1 ≤ z ∧ z ≤ er r 2
def In3 (r x y z : Nat) : Prop := 1 ≤ x ∧ x ≤ er r 0 ∧ In2 r y z
theorem bg1 (a b c : Nat) : bg (lf a b c) 1 = a := by
  show 0 + a = a
  omega
theorem lf_e1 {a b c b' c' : Nat} : ∀ i, i < 1 → lf a b c i = lf a b' c' i := fun i hi => by
  have : i = 0 := by omega
  subst this
  rfl
theorem lf_e2 {a b c c' : Nat} : ∀ i, i < 2 → lf a b c i = lf a b c' i := fun i hi => by
  have : i = 0 ∨ i = 1 := by omega
  rcases this with rfl | rfl <;> rfl
section Rseek2
variable {L : Nat} {A : Nat → Nat}
theorem m205_64 {d H q a r : Nat} (hr : r = 2 ∨ r = 3) (hH : H ≤ 15) (hV : VW A q) (hq : q ≤ 100000000) (h0 : A 0 < 576000) (ha : a ≤ 30) : ∀ (n b : Nat) (h : PH), b + n = 31 → 1 ≤ b → Sg h A (lf a 0 0) 1 → hI h 276 0 = nI a → hI h 276 1 = nI b → (∀ y z, In2 r y z → y < b → ¬ OkR A (lf a y z) r H) → (∃ y z h', In2 r y z ∧ OkR A (lf a y z) r H ∧ (∀ y' z', In2 r y' z' → (y' < y ∨ (y' = y ∧ z' < z)) → ¬ OkR A (lf a y' z') r H) ∧ runL (g2 L) (d + 3) 11 false (some .boolean) kc_205 64 [.ref 253, .int (nI r), .int (nI H)] [] h = some (some (.int (nI 1)), h') ∧ hI h' 276 0 = nI a ∧ hI h' 276 1 = nI y ∧ (r = 3 → hI h' 276 2 = nI z) ∧ Fr h h') ∨ (∃ h', (∀ y z, In2 r y z → ¬ OkR A (lf a y z) r H) ∧ runL (g2 L) (d + 3) 11 false (some .boolean) kc_205 64 [.ref 253, .int (nI r), .int (nI H)] [] h = runL (g2 L) (d + 3) 11 false (some .boolean) kc_205 18 [.ref 253, .int (nI r), .int (nI H)] [] h' ∧ hI h' 276 0 = nI (a + 1) ∧ Sg h' A (lf a 0 0) 0 ∧ Fr h h') := by
  have er1 : er r 1 = 30 := if_pos (by omega)
  have er2 : er r 2 = if r = 3 then 30 else 1 := by
    unfold er
    by_cases z : r = 3
    · rw [if_pos z, if_pos (by omega)]
    · rw [if_neg z, if_neg (by omega)]
  intro n
  induction n with
  | zero =>
    intro b h hb h1 hS p0 p1 hno
    refine Or.inr ⟨wI h 276 0 (nI (a + 1)), fun y z hy => hno y z hy (by have := hy.2.1; omega), ?_, by rw [hI_wI, if_pos ⟨rfl, rfl⟩], (hS.low (by omega)).w6, Fr.w (by omega)⟩
    rw [e205_64, p1, if_pos (by rw [nI_ltN (by omega) (by omega)]; omega), p0, nI_plus]
  | succ n ih =>
    intro b h hb h1 hS p0 p1 hno
    obtain ⟨h1', a1, a2, a3, a4⟩ := go9 (L := L) d (r := 1) (l := lf a b 0) (by omega) hV hq (show b ≤ 30 by omega) (by rw [bg1]; omega) (hS.len lf_e1)
    rw [bg1] at a1
    have a1' : exec (g2 L) (d + 3) 209 [.ref 253, .int (nI 1), .int (nI b), .int (nI a)] h = some (none, h1') := a1
    have again : ∀ h2 : PH, Sg h2 A (lf a 0 0) 1 → hI h2 276 0 = nI a → hI h2 276 1 = nI (b + 1) → Fr h h2 → (∀ z, 1 ≤ z → z ≤ er r 2 → ¬ OkR A (lf a b z) r H) → runL (g2 L) (d + 3) 11 false (some .boolean) kc_205 64 [.ref 253, .int (nI r), .int (nI H)] [] h = runL (g2 L) (d + 3) 11 false (some .boolean) kc_205 64 [.ref 253, .int (nI r), .int (nI H)] [] h2 → (∃ y z h', In2 r y z ∧ OkR A (lf a y z) r H ∧ (∀ y' z', In2 r y' z' → (y' < y ∨ (y' = y ∧ z' < z)) → ¬ OkR A (lf a y' z') r H) ∧ runL (g2 L) (d + 3) 11 false (some .boolean) kc_205 64 [.ref 253, .int (nI r), .int (nI H)] [] h = some (some (.int (nI 1)), h') ∧ hI h' 276 0 = nI a ∧ hI h' 276 1 = nI y ∧ (r = 3 → hI h' 276 2 = nI z) ∧ Fr h h') ∨ (∃ h', (∀ y z, In2 r y z → ¬ OkR A (lf a y z) r H) ∧ runL (g2 L) (d + 3) 11 false (some .boolean) kc_205 64 [.ref 253, .int (nI r), .int (nI H)] [] h = runL (g2 L) (d + 3) 11 false (some .boolean) kc_205 18 [.ref 253, .int (nI r), .int (nI H)] [] h' ∧ hI h' 276 0 = nI (a + 1) ∧ Sg h' A (lf a 0 0) 0 ∧ Fr h h') := by
      intro h2 s1 s2 s3 s4 s5 st
      rcases ih (b + 1) h2 (by omega) (by omega) s1 s2 s3 (fun y z hy hlt => by
        by_cases e : y = b
        · subst e
          exact s5 z hy.2.2.1 hy.2.2.2
        · exact hno y z hy (by omega)) with ⟨y, z, h', g1, g2', g3, g4, g5, g6, g7, g8⟩ | ⟨h', g1, g2', g3, g4, g5⟩
      · exact Or.inl ⟨y, z, h', g1, g2', g3, st.trans g4, g5, g6, g7, s4.tr g8⟩
      · exact Or.inr ⟨h', g1, st.trans g2', g3, g4, s4.tr g5⟩
    rcases hr with rfl | rfl
    · obtain ⟨f, h2, b1, b2, b3, b4, b5, b6⟩ := tst (L := L) d hH (by omega) hV h0 a2
      have st : runL (g2 L) (d + 3) 11 false (some .boolean) kc_205 64 [.ref 253, .int (nI 2), .int (nI H)] [] h = if f = 1 then some (some (.int (nI 1)), h2) else runL (g2 L) (d + 3) 11 false (some .boolean) kc_205 120 [.ref 253, .int (nI 2), .int (nI H)] [] (wI h2 276 2 (nI 1)) := by
        rw [e205_64, p1, if_neg (by rw [nI_ltN (by omega) (by omega)]; omega), if_neg (by decide), p0, a1', cV_s, if_neg (show ¬ nI 2 ≠ nI 2 from fun q => q rfl), b1, cI_s]
        by_cases z : f = 1
        · rw [z, if_neg (by decide), if_pos rfl]
        · rw [if_pos (by rw [show f = 0 by omega]), if_neg z]
      have t0 : hI h2 276 0 = nI a := by rw [b6, a4]; exact p0
      have t1 : hI h2 276 1 = nI b := by rw [b6, a4]; exact p1
      have okl : ∀ z, OkR A (lf a b z) 2 H ↔ OkR A (lf a b 0) 2 H := fun z => OkR_len lf_e2
      by_cases z : f = 1
      · rw [if_pos z] at st
        refine Or.inl ⟨b, 1, h2, ⟨h1, by omega, Nat.le_refl _, by rw [er2]; decide⟩, (okl 1).mpr (b3.mp z), fun y' z' hy hlt => ?_, st, t0, t1, fun q => by omega, a3.tr b5⟩
        rcases hlt with hlt | ⟨-, hlt⟩
        · exact hno y' z' hy hlt
        · have := hy.2.2.1
          omega
      · rw [if_neg z] at st
        refine again (wI (wI h2 276 2 (nI 1)) 276 1 (nI (b + 1))) (((b4.low (by omega)).len lf_e1).w6.w6) ?_ ?_ ((a3.tr b5).tr ((Fr.w (by omega)).tr (Fr.w (by omega)))) (fun y q1 q2 o => z (b3.mpr ((okl y).mp o))) ?_
        · rw [hI_wI, if_neg (by omega), hI_wI, if_neg (by omega)]
          exact t0
        · rw [hI_wI, if_pos ⟨rfl, rfl⟩]
        · have k2 : hI (wI h2 276 2 (nI 1)) 276 2 = nI 1 := by rw [hI_wI, if_pos ⟨rfl, rfl⟩]
          have k1 : hI (wI h2 276 2 (nI 1)) 276 1 = nI b := by rw [hI_wI, if_neg (by omega)]; exact t1
          rw [st, e205_120, k2, k1, if_neg (show ¬ nI 30 < nI 1 by decide), if_pos (show nI 2 ≤ nI 2 by decide), nI_plus]
    · have hS2 : Sg (wI h1' 276 2 (nI 1)) A (lf a b 0) 2 := a2.w6
      have hP : P6 (wI h1' 276 2 (nI 1)) a b 1 := by
        unfold P6
        rw [hI_wI, if_neg (by omega), hI_wI, if_neg (by omega), hI_wI, if_pos ⟨rfl, rfl⟩, a4]
        exact ⟨p0, p1, rfl⟩
      have st : runL (g2 L) (d + 3) 11 false (some .boolean) kc_205 64 [.ref 253, .int (nI 3), .int (nI H)] [] h = runL (g2 L) (d + 3) 11 false (some .boolean) kc_205 120 [.ref 253, .int (nI 3), .int (nI H)] [] (wI h1' 276 2 (nI 1)) := by
        rw [e205_64, p1, if_neg (by rw [nI_ltN (by omega) (by omega)]; omega), if_neg (by decide), p0, a1', cV_s, if_pos (by decide)]
      rcases m205_120 (L := L) (d := d) hH hV hq h0 ha (show b ≤ 30 by omega) 30 1 _ rfl (Nat.le_refl _) hS2 hP (fun z q1 q2 => by omega) with ⟨z, h', g1, g2', g3, g4, g5, g6, g7⟩ | ⟨h', g1, g2', g3, g4, g5⟩
      · refine Or.inl ⟨b, z, h', ⟨h1, by omega, g1, by rw [er2]; exact g2'⟩, g3, fun y' z' hy hlt => ?_, st.trans g5, g6.1, g6.2.1, fun _ => g6.2.2, (a3.tr (Fr.w (by omega))).tr g7⟩
        rcases hlt with hlt | ⟨rfl, hlt⟩
        · exact hno y' z' hy hlt
        · exact g4 z' hy.2.2.1 hlt
      · exact again h' (g4.len lf_e1) g3.1 g3.2 ((a3.tr (Fr.w (by omega))).tr g5) (fun z q1 q2 => g1 z q1 (by rw [er2, if_pos rfl] at q2; exact q2)) (st.trans g2')
theorem m205_18 {d H q r : Nat} (hr : 1 ≤ r ∧ r ≤ 3) (hH : H ≤ 15) (hV : VW A q) (hq : q ≤ 100000000) (h0 : A 0 < 576000) : ∀ (n a : Nat) (h : PH), a + n = 31 → 1 ≤ a → Sg h A (lf 0 0 0) 0 → hI h 276 0 = nI a → (∀ x y z, In3 r x y z → x < a → ¬ OkR A (lf x y z) r H) → (∃ x y z h', In3 r x y z ∧ OkR A (lf x y z) r H ∧ (∀ x' y' z', In3 r x' y' z' → (x' < x ∨ (x' = x ∧ (y' < y ∨ (y' = y ∧ z' < z)))) → ¬ OkR A (lf x' y' z') r H) ∧ runL (g2 L) (d + 3) 11 false (some .boolean) kc_205 18 [.ref 253, .int (nI r), .int (nI H)] [] h = some (some (.int (nI 1)), h') ∧ (∀ i, i < r → hI h' 276 i = nI (lf x y z i)) ∧ Fr h h') ∨ (∃ h', (∀ x y z, In3 r x y z → ¬ OkR A (lf x y z) r H) ∧ runL (g2 L) (d + 3) 11 false (some .boolean) kc_205 18 [.ref 253, .int (nI r), .int (nI H)] [] h = some (some (.int (nI 0)), h') ∧ Sg h' A (lf 0 0 0) 0 ∧ Fr h h') := by
  have er0 : er r 0 = 30 := if_pos (by omega)
  have l0 : ∀ {l l' : Nat → Nat}, ∀ i, i < 0 → l i = l' i := fun i hi => by omega
  intro n
  induction n with
  | zero =>
    intro a h ha h1 hS p0 hno
    refine Or.inr ⟨h, fun x y z hx => hno x y z hx (by have := hx.2.1; omega), ?_, hS, Fr.rf⟩
    rw [e205_18, p0, if_pos (by rw [nI_ltN (by omega) (by omega)]; omega)]
  | succ n ih =>
    intro a h ha h1 hS p0 hno
    obtain ⟨h1', a1, a2, a3, a4⟩ := go9 (L := L) d (r := 0) (l := lf a 0 0) (by omega) hV hq (show a ≤ 30 by omega) (show 0 ≤ 60 by omega) (hS.len l0)
    have a1' : exec (g2 L) (d + 3) 209 [.ref 253, .int (nI 0), .int (nI a), .int (nI 0)] h = some (none, h1') := a1
    have again : ∀ h2 : PH, Sg h2 A (lf 0 0 0) 0 → hI h2 276 0 = nI (a + 1) → Fr h h2 → (∀ y z, In2 r y z → ¬ OkR A (lf a y z) r H) → runL (g2 L) (d + 3) 11 false (some .boolean) kc_205 18 [.ref 253, .int (nI r), .int (nI H)] [] h = runL (g2 L) (d + 3) 11 false (some .boolean) kc_205 18 [.ref 253, .int (nI r), .int (nI H)] [] h2 → (∃ x y z h', In3 r x y z ∧ OkR A (lf x y z) r H ∧ (∀ x' y' z', In3 r x' y' z' → (x' < x ∨ (x' = x ∧ (y' < y ∨ (y' = y ∧ z' < z)))) → ¬ OkR A (lf x' y' z') r H) ∧ runL (g2 L) (d + 3) 11 false (some .boolean) kc_205 18 [.ref 253, .int (nI r), .int (nI H)] [] h = some (some (.int (nI 1)), h') ∧ (∀ i, i < r → hI h' 276 i = nI (lf x y z i)) ∧ Fr h h') ∨ (∃ h', (∀ x y z, In3 r x y z → ¬ OkR A (lf x y z) r H) ∧ runL (g2 L) (d + 3) 11 false (some .boolean) kc_205 18 [.ref 253, .int (nI r), .int (nI H)] [] h = some (some (.int (nI 0)), h') ∧ Sg h' A (lf 0 0 0) 0 ∧ Fr h h') := by
      intro h2 s1 s2 s3 s4 st
      rcases ih (a + 1) h2 (by omega) (by omega) s1 s2 (fun x y z hx hlt => by
        by_cases e : x = a
        · subst e
          exact s4 y z hx.2.2
        · exact hno x y z hx (by omega)) with ⟨x, y, z, h', g1, g2', g3, g4, g5, g6⟩ | ⟨h', g1, g2', g3, g4⟩
      · exact Or.inl ⟨x, y, z, h', g1, g2', g3, st.trans g4, g5, s3.tr g6⟩
      · exact Or.inr ⟨h', g1, st.trans g2', g3, s3.tr g4⟩
    by_cases r1 : r = 1
    · subst r1
      obtain ⟨f, h2, b1, b2, b3, b4, b5, b6⟩ := tst (L := L) d hH (by omega) hV h0 a2
      have st : runL (g2 L) (d + 3) 11 false (some .boolean) kc_205 18 [.ref 253, .int (nI 1), .int (nI H)] [] h = if f = 1 then some (some (.int (nI 1)), h2) else runL (g2 L) (d + 3) 11 false (some .boolean) kc_205 64 [.ref 253, .int (nI 1), .int (nI H)] [] (wI h2 276 1 (nI 1)) := by
        rw [e205_18, p0, if_neg (by rw [nI_ltN (by omega) (by omega)]; omega), a1', cV_s, if_neg (show ¬ nI 1 ≠ nI 1 from fun q => q rfl), b1, cI_s]
        by_cases z : f = 1
        · rw [z, if_neg (by decide), if_pos rfl]
        · rw [if_pos (by rw [show f = 0 by omega]), if_neg z]
      have t0 : hI h2 276 0 = nI a := by rw [b6, a4]; exact p0
      have okl : ∀ y z, OkR A (lf a y z) 1 H ↔ OkR A (lf a 0 0) 1 H := fun y z => OkR_len lf_e1
      by_cases z : f = 1
      · rw [if_pos z] at st
        refine Or.inl ⟨a, 1, 1, h2, ⟨h1, by omega, Nat.le_refl _, Nat.le_refl _, Nat.le_refl _, Nat.le_refl _⟩, (okl 1 1).mpr (b3.mp z), fun x' y' z' hx hlt => ?_, st, fun i hi => ?_, a3.tr b5⟩
        · rcases hlt with hlt | ⟨-, hlt⟩
          · exact hno x' y' z' hx hlt
          · have k1 := hx.2.2.1
            have k2 := hx.2.2.2.2.1
            have k3 : y' ≤ 1 := hx.2.2.2.1
            omega
        · have : i = 0 := by omega
          subst this
          exact t0
      · rw [if_neg z] at st
        have k1 : hI (wI h2 276 1 (nI 1)) 276 1 = nI 1 := by rw [hI_wI, if_pos ⟨rfl, rfl⟩]
        have k0 : hI (wI h2 276 1 (nI 1)) 276 0 = nI a := by rw [hI_wI, if_neg (by omega)]; exact t0
        refine again (wI (wI h2 276 1 (nI 1)) 276 0 (nI (a + 1))) (((b4.low (by omega)).len l0).w6.w6) (by rw [hI_wI, if_pos ⟨rfl, rfl⟩]) ((a3.tr b5).tr ((Fr.w (by omega)).tr (Fr.w (by omega)))) (fun y z' q o => z (b3.mpr ((okl y z').mp o))) ?_
        rw [st, e205_64, k1, k0, if_neg (show ¬ nI 30 < nI 1 by decide), if_pos (show nI 1 ≤ nI 1 by decide), nI_plus]
    · have hr2 : r = 2 ∨ r = 3 := by omega
      have st : runL (g2 L) (d + 3) 11 false (some .boolean) kc_205 18 [.ref 253, .int (nI r), .int (nI H)] [] h = runL (g2 L) (d + 3) 11 false (some .boolean) kc_205 64 [.ref 253, .int (nI r), .int (nI H)] [] (wI h1' 276 1 (nI 1)) := by
        rw [e205_18, p0, if_neg (by rw [nI_ltN (by omega) (by omega)]; omega), a1', cV_s, if_pos (by rw [Ne, nI_eqI (by omega) (by omega)]; exact r1)]
      rcases m205_64 (L := L) (d := d) (a := a) hr2 hH hV hq h0 (by omega) 30 1 (wI h1' 276 1 (nI 1)) rfl (Nat.le_refl _) a2.w6 (by rw [hI_wI, if_neg (by omega), a4]; exact p0) (by rw [hI_wI, if_pos ⟨rfl, rfl⟩]) (fun y z hy hlt => by have := hy.1; omega) with ⟨y, z, h', g1, g2', g3, g4, g5, g6, g7, g8⟩ | ⟨h', g1, g2', g3, g4, g5⟩
      · refine Or.inl ⟨a, y, z, h', ⟨h1, by omega, g1⟩, g2', fun x' y' z' hx hlt => ?_, st.trans g4, fun i hi => ?_, (a3.tr (Fr.w (by omega))).tr g8⟩
        · rcases hlt with hlt | ⟨rfl, hlt⟩
          · exact hno x' y' z' hx hlt
          · exact g3 y' z' hx.2.2 hlt
        · have c : i = 0 ∨ i = 1 ∨ (i = 2 ∧ r = 3) := by omega
          rcases c with rfl | rfl | ⟨rfl, c⟩
          · exact g5
          · exact g6
          · exact g7 c
      · exact again h' (g4.len l0) g3 ((a3.tr (Fr.w (by omega))).tr g5) g1 (st.trans g2')
end Rseek2
